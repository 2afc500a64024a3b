section W19model3leantxt
variable {p : Program} {l : Launch} {e : Env} {R : Room} {s : State} {m : MethodId} {args : Array Value} {below : List Frame} {meth : Method} {c : Code} {z : Zt} {cc : ByteArray} {nL : Nat} {ow : String} {ret : Option FieldType} {nm : String} {Q : State → Prop} {bc bs pc : Nat} {lv : List (Nat × Value)} {st : List Value} {S : Hp}
theorem dsc_X12_at_ : dsc yX12_at_ 3 := ⟨by decide, by decide, by decide +kernel⟩
theorem cl_RX12_154 (C : Cx p s m args meth c z cc nL RX12 ret nm) {a : Nat} {q0 : Nat} {q1 : Int32} {q2 : Int32} {rest : List Value} {post : Option Value → Hp → Prop} (hm : Ct l z yX12_at_ cX12_at_ 6 (some .int) 1 22 0 0 [.ref a, .ref (q0), .int (q1), .int (q2)] S post) (hR : 1 + 1 ≤ R.frames ∧ 8 + (6 + 11) + 22 ≤ R.locals) (hk : kd S a = 13) (hd : decode cc pc = .ok (.invokevirtual 154, 3)) (hW : (rest.map fun v => v.category).sum ≤ 8) (k : ∀ (v : Option Value) (S' : Hp), post v S' → Go p l e R s m args below meth c z nL Q bc bs (pc + 3) lv (v.toList ++ rest) S') : Go p l e R s m args below meth c z nL Q bc bs pc lv (.int (q2) :: .int (q1) :: .ref (q0) :: .ref a :: rest) S := G_callV C 12 14 rfl rfl (gt_t 1081 (by decide +kernel) rfl) (gt_t 1083 (by decide +kernel) rfl) (gt_s 44 (by decide +kernel) rfl) (gt_t 14 (by decide +kernel) rfl) (gt_t 1084 (by decide +kernel) rfl) (dsc_X12_at_) hm rfl hR hk rfl hW hd k
theorem dsc_X12_over : dsc yX12_over 1 := ⟨by decide, by decide, by decide +kernel⟩
theorem cl_RX12_157 (C : Cx p s m args meth c z cc nL RX12 ret nm) {q0 : Int32} {rest : List Value} {post : Option Value → Hp → Prop} (hm : Ct l z yX12_over cX12_over 2 (some .int) 0 0 0 0 [.int (q0)] S post) (hR : 0 + 1 ≤ R.frames ∧ 8 + (2 + 11) + 0 ≤ R.locals) (hd : decode cc pc = .ok (.invokestatic 157, 3)) (hW : (rest.map fun v => v.category).sum ≤ 8) (k : ∀ (v : Option Value) (S' : Hp), post v S' → Go p l e R s m args below meth c z nL Q bc bs (pc + 3) lv (v.toList ++ rest) S') : Go p l e R s m args below meth c z nL Q bc bs pc lv (.int (q0) :: rest) S := G_callS C (gt_t 1085 (by decide +kernel) rfl) (gt_t 1086 (by decide +kernel) rfl) (gt_t 14 (by decide +kernel) rfl) (gt_t 1087 (by decide +kernel) rfl) (dsc_X12_over) hm rfl hR rfl hW hd k
theorem gf_RX12_22 (C : Cx p s m args meth c z cc nL RX12 ret nm) {a : Nat} (hd : decode cc pc = .ok (.getfield 22, 3)) (hk : kd S a = 13) (k : Go p l e R s m args below meth c z nL Q bc bs (pc + 3) lv (va_rf (gR S 204 a 0) :: st) S) : Go p l e R s m args below meth c z nL Q bc bs pc lv (.ref a :: st) S := G_getR C 12 11 14 rfl rfl (by decide) in_X12 rfl rfl (gt_t 839 (by decide +kernel) rfl) hd hk k
theorem gf_RX12_25 (C : Cx p s m args meth c z cc nL RX12 ret nm) {a : Nat} (hd : decode cc pc = .ok (.getfield 25, 3)) (hk : kd S a = 13) (k : Go p l e R s m args below meth c z nL Q bc bs (pc + 3) lv (va_rf (gR S 205 a 0) :: st) S) : Go p l e R s m args below meth c z nL Q bc bs pc lv (.ref a :: st) S := G_getR C 12 12 14 rfl rfl (by decide) in_X12 rfl rfl (gt_t 840 (by decide +kernel) rfl) hd hk k
theorem dsc_X12_holders : dsc yX12_holders 1 := ⟨by decide, by decide, by decide +kernel⟩
theorem cl_RX12_160 (C : Cx p s m args meth c z cc nL RX12 ret nm) {a : Nat} {q0 : Int32} {rest : List Value} {post : Option Value → Hp → Prop} (hm : Ct l z yX12_holders cX12_holders 4 (some .int) 2 47 0 0 [.ref a, .int (q0)] S post) (hR : 2 + 1 ≤ R.frames ∧ 8 + (4 + 11) + 47 ≤ R.locals) (hk : kd S a = 13) (hd : decode cc pc = .ok (.invokevirtual 160, 3)) (hW : (rest.map fun v => v.category).sum ≤ 8) (k : ∀ (v : Option Value) (S' : Hp), post v S' → Go p l e R s m args below meth c z nL Q bc bs (pc + 3) lv (v.toList ++ rest) S') : Go p l e R s m args below meth c z nL Q bc bs pc lv (.int (q0) :: .ref a :: rest) S := G_callV C 12 14 rfl rfl (gt_t 1063 (by decide +kernel) rfl) (gt_t 1065 (by decide +kernel) rfl) (gt_s 41 (by decide +kernel) rfl) (gt_t 14 (by decide +kernel) rfl) (gt_t 1066 (by decide +kernel) rfl) (dsc_X12_holders) hm rfl hR hk rfl hW hd k
theorem dsc_X12_ones : dsc yX12_ones 1 := ⟨by decide, by decide, by decide +kernel⟩
theorem cl_RX12_163 (C : Cx p s m args meth c z cc nL RX12 ret nm) {q0 : Int32} {rest : List Value} {post : Option Value → Hp → Prop} (hm : Ct l z yX12_ones cX12_ones 3 (some .int) 0 0 0 0 [.int (q0)] S post) (hR : 0 + 1 ≤ R.frames ∧ 8 + (3 + 11) + 0 ≤ R.locals) (hd : decode cc pc = .ok (.invokestatic 163, 3)) (hW : (rest.map fun v => v.category).sum ≤ 8) (k : ∀ (v : Option Value) (S' : Hp), post v S' → Go p l e R s m args below meth c z nL Q bc bs (pc + 3) lv (v.toList ++ rest) S') : Go p l e R s m args below meth c z nL Q bc bs pc lv (.int (q0) :: rest) S := G_callS C (gt_t 1067 (by decide +kernel) rfl) (gt_t 1068 (by decide +kernel) rfl) (gt_t 14 (by decide +kernel) rfl) (gt_t 1069 (by decide +kernel) rfl) (dsc_X12_ones) hm rfl hR rfl hW hd k
theorem dsc_X12_lays : dsc yX12_lays 2 := ⟨by decide, by decide, by decide +kernel⟩
theorem cl_RX12_166 (C : Cx p s m args meth c z cc nL RX12 ret nm) {a : Nat} {q0 : Int32} {q1 : Int32} {rest : List Value} {post : Option Value → Hp → Prop} (hm : Ct l z yX12_lays cX12_lays 8 none 2 47 0 0 [.ref a, .int (q0), .int (q1)] S post) (hR : 2 + 1 ≤ R.frames ∧ 8 + (8 + 11) + 47 ≤ R.locals) (hk : kd S a = 13) (hd : decode cc pc = .ok (.invokevirtual 166, 3)) (hW : (rest.map fun v => v.category).sum ≤ 8) (k : ∀ (v : Option Value) (S' : Hp), post v S' → Go p l e R s m args below meth c z nL Q bc bs (pc + 3) lv (v.toList ++ rest) S') : Go p l e R s m args below meth c z nL Q bc bs pc lv (.int (q1) :: .int (q0) :: .ref a :: rest) S := G_callV C 12 14 rfl rfl (gt_t 1077 (by decide +kernel) rfl) (gt_t 1079 (by decide +kernel) rfl) (gt_s 43 (by decide +kernel) rfl) (gt_t 14 (by decide +kernel) rfl) (gt_t 1080 (by decide +kernel) rfl) (dsc_X12_lays) hm rfl hR hk rfl hW hd k
theorem dsc_X12_on : dsc yX12_on 2 := ⟨by decide, by decide, by decide +kernel⟩
theorem cl_RX12_169 (C : Cx p s m args meth c z cc nL RX12 ret nm) {a : Nat} {q0 : Int32} {q1 : Int32} {rest : List Value} {post : Option Value → Hp → Prop} (hm : Ct l z yX12_on cX12_on 6 (some .int) 2 47 0 0 [.ref a, .int (q0), .int (q1)] S post) (hR : 2 + 1 ≤ R.frames ∧ 8 + (6 + 11) + 47 ≤ R.locals) (hk : kd S a = 13) (hd : decode cc pc = .ok (.invokevirtual 169, 3)) (hW : (rest.map fun v => v.category).sum ≤ 8) (k : ∀ (v : Option Value) (S' : Hp), post v S' → Go p l e R s m args below meth c z nL Q bc bs (pc + 3) lv (v.toList ++ rest) S') : Go p l e R s m args below meth c z nL Q bc bs pc lv (.int (q1) :: .int (q0) :: .ref a :: rest) S := G_callV C 12 14 rfl rfl (gt_t 1088 (by decide +kernel) rfl) (gt_t 1090 (by decide +kernel) rfl) (gt_s 45 (by decide +kernel) rfl) (gt_t 14 (by decide +kernel) rfl) (gt_t 1091 (by decide +kernel) rfl) (dsc_X12_on) hm rfl hR hk rfl hW hd k
theorem dsc_X12_packedStripes : dsc yX12_packedStripes 1 := ⟨by decide, by decide, by decide +kernel⟩
theorem cl_RX12_172 (C : Cx p s m args meth c z cc nL RX12 ret nm) {a : Nat} {q0 : Int32} {rest : List Value} {post : Option Value → Hp → Prop} (hm : Ct l z yX12_packedStripes cX12_packedStripes 2 (some .int) 1 21 0 0 [.ref a, .int (q0)] S post) (hR : 1 + 1 ≤ R.frames ∧ 8 + (2 + 11) + 21 ≤ R.locals) (hk : kd S a = 13) (hd : decode cc pc = .ok (.invokevirtual 172, 3)) (hW : (rest.map fun v => v.category).sum ≤ 8) (k : ∀ (v : Option Value) (S' : Hp), post v S' → Go p l e R s m args below meth c z nL Q bc bs (pc + 3) lv (v.toList ++ rest) S') : Go p l e R s m args below meth c z nL Q bc bs pc lv (.int (q0) :: .ref a :: rest) S := G_callV C 12 14 rfl rfl (gt_t 1051 (by decide +kernel) rfl) (gt_t 1053 (by decide +kernel) rfl) (gt_s 38 (by decide +kernel) rfl) (gt_t 14 (by decide +kernel) rfl) (gt_t 1054 (by decide +kernel) rfl) (dsc_X12_packedStripes) hm rfl hR hk rfl hW hd k
theorem dsc_X12_packedFirst : dsc yX12_packedFirst 1 := ⟨by decide, by decide, by decide +kernel⟩
theorem cl_RX12_175 (C : Cx p s m args meth c z cc nL RX12 ret nm) {a : Nat} {q0 : Int32} {rest : List Value} {post : Option Value → Hp → Prop} (hm : Ct l z yX12_packedFirst cX12_packedFirst 2 (some .int) 0 0 0 0 [.ref a, .int (q0)] S post) (hR : 0 + 1 ≤ R.frames ∧ 8 + (2 + 11) + 0 ≤ R.locals) (hk : kd S a = 13) (hd : decode cc pc = .ok (.invokevirtual 175, 3)) (hW : (rest.map fun v => v.category).sum ≤ 8) (k : ∀ (v : Option Value) (S' : Hp), post v S' → Go p l e R s m args below meth c z nL Q bc bs (pc + 3) lv (v.toList ++ rest) S') : Go p l e R s m args below meth c z nL Q bc bs pc lv (.int (q0) :: .ref a :: rest) S := G_callV C 12 14 rfl rfl (gt_t 1059 (by decide +kernel) rfl) (gt_t 1061 (by decide +kernel) rfl) (gt_s 40 (by decide +kernel) rfl) (gt_t 14 (by decide +kernel) rfl) (gt_t 1062 (by decide +kernel) rfl) (dsc_X12_packedFirst) hm rfl hR hk rfl hW hd k
theorem dsc_X12_firsts : dsc yX12_firsts 2 := ⟨by decide, by decide, by decide +kernel⟩
theorem cl_RX12_178 (C : Cx p s m args meth c z cc nL RX12 ret nm) {q0 : Int32} {q1 : Int32} {rest : List Value} {post : Option Value → Hp → Prop} (hm : Ct l z yX12_firsts cX12_firsts 5 (some .int) 0 0 0 0 [.int (q0), .int (q1)] S post) (hR : 0 + 1 ≤ R.frames ∧ 8 + (5 + 11) + 0 ≤ R.locals) (hd : decode cc pc = .ok (.invokestatic 178, 3)) (hW : (rest.map fun v => v.category).sum ≤ 8) (k : ∀ (v : Option Value) (S' : Hp), post v S' → Go p l e R s m args below meth c z nL Q bc bs (pc + 3) lv (v.toList ++ rest) S') : Go p l e R s m args below meth c z nL Q bc bs pc lv (.int (q1) :: .int (q0) :: rest) S := G_callS C (gt_t 1074 (by decide +kernel) rfl) (gt_t 1075 (by decide +kernel) rfl) (gt_t 14 (by decide +kernel) rfl) (gt_t 1076 (by decide +kernel) rfl) (dsc_X12_firsts) hm rfl hR rfl hW hd k
theorem dsc_X12_fewest : dsc yX12_fewest 1 := ⟨by decide, by decide, by decide +kernel⟩
theorem cl_RX12_181 (C : Cx p s m args meth c z cc nL RX12 ret nm) {a : Nat} {q0 : Int32} {rest : List Value} {post : Option Value → Hp → Prop} (hm : Ct l z yX12_fewest cX12_fewest 5 (some .int) 3 70 0 0 [.ref a, .int (q0)] S post) (hR : 3 + 1 ≤ R.frames ∧ 8 + (5 + 11) + 70 ≤ R.locals) (hk : kd S a = 13) (hd : decode cc pc = .ok (.invokevirtual 181, 3)) (hW : (rest.map fun v => v.category).sum ≤ 8) (k : ∀ (v : Option Value) (S' : Hp), post v S' → Go p l e R s m args below meth c z nL Q bc bs (pc + 3) lv (v.toList ++ rest) S') : Go p l e R s m args below meth c z nL Q bc bs pc lv (.int (q0) :: .ref a :: rest) S := G_callV C 12 14 rfl rfl (gt_t 1047 (by decide +kernel) rfl) (gt_t 1049 (by decide +kernel) rfl) (gt_s 37 (by decide +kernel) rfl) (gt_t 14 (by decide +kernel) rfl) (gt_t 1050 (by decide +kernel) rfl) (dsc_X12_fewest) hm rfl hR hk rfl hW hd k
theorem dsc_X12_isDoubted : dsc yX12_isDoubted 1 := ⟨by decide, by decide, by decide +kernel⟩
theorem cl_RX12_184 (C : Cx p s m args meth c z cc nL RX12 ret nm) {a : Nat} {q0 : Int32} {rest : List Value} {post : Option Value → Hp → Prop} (hm : Ct l z yX12_isDoubted cX12_isDoubted 6 (some .boolean) 3 74 0 0 [.ref a, .int (q0)] S post) (hR : 3 + 1 ≤ R.frames ∧ 8 + (6 + 11) + 74 ≤ R.locals) (hk : kd S a = 13) (hd : decode cc pc = .ok (.invokevirtual 184, 3)) (hW : (rest.map fun v => v.category).sum ≤ 8) (k : ∀ (v : Option Value) (S' : Hp), post v S' → Go p l e R s m args below meth c z nL Q bc bs (pc + 3) lv (v.toList ++ rest) S') : Go p l e R s m args below meth c z nL Q bc bs pc lv (.int (q0) :: .ref a :: rest) S := G_callV C 12 14 rfl rfl (gt_t 1070 (by decide +kernel) rfl) (gt_t 1072 (by decide +kernel) rfl) (gt_s 42 (by decide +kernel) rfl) (gt_t 14 (by decide +kernel) rfl) (gt_t 1073 (by decide +kernel) rfl) (dsc_X12_isDoubted) hm rfl hR hk rfl hW hd k
theorem dsc_X12_isPacked : dsc yX12_isPacked 1 := ⟨by decide, by decide, by decide +kernel⟩
theorem cl_RX12_187 (C : Cx p s m args meth c z cc nL RX12 ret nm) {a : Nat} {q0 : Int32} {rest : List Value} {post : Option Value → Hp → Prop} (hm : Ct l z yX12_isPacked cX12_isPacked 2 (some .boolean) 1 25 0 0 [.ref a, .int (q0)] S post) (hR : 1 + 1 ≤ R.frames ∧ 8 + (2 + 11) + 25 ≤ R.locals) (hk : kd S a = 13) (hd : decode cc pc = .ok (.invokevirtual 187, 3)) (hW : (rest.map fun v => v.category).sum ≤ 8) (k : ∀ (v : Option Value) (S' : Hp), post v S' → Go p l e R s m args below meth c z nL Q bc bs (pc + 3) lv (v.toList ++ rest) S') : Go p l e R s m args below meth c z nL Q bc bs pc lv (.int (q0) :: .ref a :: rest) S := G_callV C 12 14 rfl rfl (gt_t 1039 (by decide +kernel) rfl) (gt_t 1041 (by decide +kernel) rfl) (gt_s 35 (by decide +kernel) rfl) (gt_t 14 (by decide +kernel) rfl) (gt_t 1042 (by decide +kernel) rfl) (dsc_X12_isPacked) hm rfl hR hk rfl hW hd k
theorem dsc_X12_stateOf : dsc yX12_stateOf 1 := ⟨by decide, by decide, by decide +kernel⟩
theorem cl_RX12_190 (C : Cx p s m args meth c z cc nL RX12 ret nm) {a : Nat} {q0 : Int32} {rest : List Value} {post : Option Value → Hp → Prop} (hm : Ct l z yX12_stateOf cX12_stateOf 2 (some .int) 4 99 0 0 [.ref a, .int (q0)] S post) (hR : 4 + 1 ≤ R.frames ∧ 8 + (2 + 11) + 99 ≤ R.locals) (hk : kd S a = 13) (hd : decode cc pc = .ok (.invokevirtual 190, 3)) (hW : (rest.map fun v => v.category).sum ≤ 8) (k : ∀ (v : Option Value) (S' : Hp), post v S' → Go p l e R s m args below meth c z nL Q bc bs (pc + 3) lv (v.toList ++ rest) S') : Go p l e R s m args below meth c z nL Q bc bs pc lv (.int (q0) :: .ref a :: rest) S := G_callV C 12 14 rfl rfl (gt_t 1043 (by decide +kernel) rfl) (gt_t 1045 (by decide +kernel) rfl) (gt_s 36 (by decide +kernel) rfl) (gt_t 14 (by decide +kernel) rfl) (gt_t 1046 (by decide +kernel) rfl) (dsc_X12_stateOf) hm rfl hR hk rfl hW hd k
theorem dsc_X12_opening : dsc yX12_opening 1 := ⟨by decide, by decide, by decide +kernel⟩
theorem cl_RX12_193 (C : Cx p s m args meth c z cc nL RX12 ret nm) {a : Nat} {q0 : Int32} {rest : List Value} {post : Option Value → Hp → Prop} (hm : Ct l z yX12_opening cX12_opening 4 (some .int) 1 22 0 0 [.ref a, .int (q0)] S post) (hR : 1 + 1 ≤ R.frames ∧ 8 + (4 + 11) + 22 ≤ R.locals) (hk : kd S a = 13) (hd : decode cc pc = .ok (.invokevirtual 193, 3)) (hW : (rest.map fun v => v.category).sum ≤ 8) (k : ∀ (v : Option Value) (S' : Hp), post v S' → Go p l e R s m args below meth c z nL Q bc bs (pc + 3) lv (v.toList ++ rest) S') : Go p l e R s m args below meth c z nL Q bc bs pc lv (.int (q0) :: .ref a :: rest) S := G_callV C 12 14 rfl rfl (gt_t 1092 (by decide +kernel) rfl) (gt_t 1094 (by decide +kernel) rfl) (gt_s 46 (by decide +kernel) rfl) (gt_t 14 (by decide +kernel) rfl) (gt_t 1095 (by decide +kernel) rfl) (dsc_X12_opening) hm rfl hR hk rfl hW hd k
theorem dsc_X12_mends : dsc yX12_mends 2 := ⟨by decide, by decide, by decide +kernel⟩
theorem cl_RX12_196 (C : Cx p s m args meth c z cc nL RX12 ret nm) {a : Nat} {q0 : Int32} {q1 : Int32} {rest : List Value} {post : Option Value → Hp → Prop} (hm : Ct l z yX12_mends cX12_mends 6 (some .boolean) 3 74 0 0 [.ref a, .int (q0), .int (q1)] S post) (hR : 3 + 1 ≤ R.frames ∧ 8 + (6 + 11) + 74 ≤ R.locals) (hk : kd S a = 13) (hd : decode cc pc = .ok (.invokevirtual 196, 3)) (hW : (rest.map fun v => v.category).sum ≤ 8) (k : ∀ (v : Option Value) (S' : Hp), post v S' → Go p l e R s m args below meth c z nL Q bc bs (pc + 3) lv (v.toList ++ rest) S') : Go p l e R s m args below meth c z nL Q bc bs pc lv (.int (q1) :: .int (q0) :: .ref a :: rest) S := G_callV C 12 14 rfl rfl (gt_t 1104 (by decide +kernel) rfl) (gt_t 1106 (by decide +kernel) rfl) (gt_s 47 (by decide +kernel) rfl) (gt_t 14 (by decide +kernel) rfl) (gt_t 1107 (by decide +kernel) rfl) (dsc_X12_mends) hm rfl hR hk rfl hW hd k
theorem gf_RX12_28 (C : Cx p s m args meth c z cc nL RX12 ret nm) {a : Nat} (hd : decode cc pc = .ok (.getfield 28, 3)) (hk : kd S a = 13) (k : Go p l e R s m args below meth c z nL Q bc bs (pc + 3) lv (va_rf (gR S 206 a 0) :: st) S) : Go p l e R s m args below meth c z nL Q bc bs pc lv (.ref a :: st) S := G_getR C 12 13 14 rfl rfl (by decide) in_X12 rfl rfl (gt_t 841 (by decide +kernel) rfl) hd hk k
theorem kw_RX12_199 : Cond.constant RX12 199 100000 ∈ gt := gt_t 1124 (by decide +kernel) rfl
theorem dsc_X12_cost : dsc yX12_cost 3 := ⟨by decide, by decide, by decide +kernel⟩
theorem cl_RX12_200 (C : Cx p s m args meth c z cc nL RX12 ret nm) {a : Nat} {q0 : Int32} {q1 : Int32} {q2 : Int32} {rest : List Value} {post : Option Value → Hp → Prop} (hm : Ct l z yX12_cost cX12_cost 5 (some .int) 1 21 0 0 [.ref a, .int (q0), .int (q1), .int (q2)] S post) (hR : 1 + 1 ≤ R.frames ∧ 8 + (5 + 11) + 21 ≤ R.locals) (hk : kd S a = 13) (hd : decode cc pc = .ok (.invokevirtual 200, 3)) (hW : (rest.map fun v => v.category).sum ≤ 8) (k : ∀ (v : Option Value) (S' : Hp), post v S' → Go p l e R s m args below meth c z nL Q bc bs (pc + 3) lv (v.toList ++ rest) S') : Go p l e R s m args below meth c z nL Q bc bs pc lv (.int (q2) :: .int (q1) :: .int (q0) :: .ref a :: rest) S := G_callV C 12 14 rfl rfl (gt_t 1125 (by decide +kernel) rfl) (gt_t 1127 (by decide +kernel) rfl) (gt_s 49 (by decide +kernel) rfl) (gt_t 14 (by decide +kernel) rfl) (gt_t 1128 (by decide +kernel) rfl) (dsc_X12_cost) hm rfl hR hk rfl hW hd k
theorem dsc_X12_plans : dsc yX12_plans 0 := ⟨by decide, by decide, by decide +kernel⟩
theorem cl_RX12_203 (C : Cx p s m args meth c z cc nL RX12 ret nm) {a : Nat}  {rest : List Value} {post : Option Value → Hp → Prop} (hm : Ct l z yX12_plans cX12_plans 6 (some .int) 2 45 0 0 [.ref a] S post) (hR : 2 + 1 ≤ R.frames ∧ 8 + (6 + 11) + 45 ≤ R.locals) (hk : kd S a = 13) (hd : decode cc pc = .ok (.invokevirtual 203, 3)) (hW : (rest.map fun v => v.category).sum ≤ 8) (k : ∀ (v : Option Value) (S' : Hp), post v S' → Go p l e R s m args below meth c z nL Q bc bs (pc + 3) lv (v.toList ++ rest) S') : Go p l e R s m args below meth c z nL Q bc bs pc lv (.ref a :: rest) S := G_callV C 12 14 rfl rfl (gt_t 1120 (by decide +kernel) rfl) (gt_t 1122 (by decide +kernel) rfl) (gt_s 48 (by decide +kernel) rfl) (gt_t 14 (by decide +kernel) rfl) (gt_t 1123 (by decide +kernel) rfl) (dsc_X12_plans) hm rfl hR hk rfl hW hd k
theorem dsc_X12_weights : dsc yX12_weights 0 := ⟨by decide, by decide, by decide +kernel⟩
theorem cl_RX12_206 (C : Cx p s m args meth c z cc nL RX12 ret nm) {a : Nat}  {rest : List Value} {post : Option Value → Hp → Prop} (hm : Ct l z yX12_weights cX12_weights 3 (some .int) 1 20 0 0 [.ref a] S post) (hR : 1 + 1 ≤ R.frames ∧ 8 + (3 + 11) + 20 ≤ R.locals) (hk : kd S a = 13) (hd : decode cc pc = .ok (.invokevirtual 206, 3)) (hW : (rest.map fun v => v.category).sum ≤ 8) (k : ∀ (v : Option Value) (S' : Hp), post v S' → Go p l e R s m args below meth c z nL Q bc bs (pc + 3) lv (v.toList ++ rest) S') : Go p l e R s m args below meth c z nL Q bc bs pc lv (.ref a :: rest) S := G_callV C 12 14 rfl rfl (gt_t 1137 (by decide +kernel) rfl) (gt_t 1139 (by decide +kernel) rfl) (gt_s 50 (by decide +kernel) rfl) (gt_t 14 (by decide +kernel) rfl) (gt_t 1140 (by decide +kernel) rfl) (dsc_X12_weights) hm rfl hR hk rfl hW hd k
theorem dsc_X12_lostMany : dsc yX12_lostMany 0 := ⟨by decide, by decide, by decide +kernel⟩
theorem cl_RX12_209 (C : Cx p s m args meth c z cc nL RX12 ret nm) {a : Nat}  {rest : List Value} {post : Option Value → Hp → Prop} (hm : Ct l z yX12_lostMany cX12_lostMany 3 (some .int) 0 0 0 0 [.ref a] S post) (hR : 0 + 1 ≤ R.frames ∧ 8 + (3 + 11) + 0 ≤ R.locals) (hk : kd S a = 13) (hd : decode cc pc = .ok (.invokevirtual 209, 3)) (hW : (rest.map fun v => v.category).sum ≤ 8) (k : ∀ (v : Option Value) (S' : Hp), post v S' → Go p l e R s m args below meth c z nL Q bc bs (pc + 3) lv (v.toList ++ rest) S') : Go p l e R s m args below meth c z nL Q bc bs pc lv (.ref a :: rest) S := G_callV C 12 14 rfl rfl (gt_t 1141 (by decide +kernel) rfl) (gt_t 1143 (by decide +kernel) rfl) (gt_s 51 (by decide +kernel) rfl) (gt_t 14 (by decide +kernel) rfl) (gt_t 1144 (by decide +kernel) rfl) (dsc_X12_lostMany) hm rfl hR hk rfl hW hd k
theorem dsc_X12_inState : dsc yX12_inState 1 := ⟨by decide, by decide, by decide +kernel⟩
theorem cl_RX12_212 (C : Cx p s m args meth c z cc nL RX12 ret nm) {a : Nat} {q0 : Int32} {rest : List Value} {post : Option Value → Hp → Prop} (hm : Ct l z yX12_inState cX12_inState 4 (some .int) 5 120 0 0 [.ref a, .int (q0)] S post) (hR : 5 + 1 ≤ R.frames ∧ 8 + (4 + 11) + 120 ≤ R.locals) (hk : kd S a = 13) (hd : decode cc pc = .ok (.invokevirtual 212, 3)) (hW : (rest.map fun v => v.category).sum ≤ 8) (k : ∀ (v : Option Value) (S' : Hp), post v S' → Go p l e R s m args below meth c z nL Q bc bs (pc + 3) lv (v.toList ++ rest) S') : Go p l e R s m args below meth c z nL Q bc bs pc lv (.int (q0) :: .ref a :: rest) S := G_callV C 12 14 rfl rfl (gt_t 1145 (by decide +kernel) rfl) (gt_t 1147 (by decide +kernel) rfl) (gt_s 52 (by decide +kernel) rfl) (gt_t 14 (by decide +kernel) rfl) (gt_t 1148 (by decide +kernel) rfl) (dsc_X12_inState) hm rfl hR hk rfl hW hd k
/-! FirstPartsModel.firsts(II)I -/
abbrev wb_X12_firsts_7  (K7 : Int32 → Int32 → Int32 → Prop) (Q : Int32 → Prop) (v1 : Int32) (v2 : Int32) (v3 : Int32) (v4 : Int32) (S : Hp) : Prop :=
  ((v1 ≤ v4 → Q v2) ∧ (¬ v1 ≤ v4 → ∀ e1 : Int32, e1 = (v2 ||| (v3 &&& (-v3))) → ∀ e2 : Int32, e2 = (v3 &&& (v3 - (1 : Int32))) → ∀ e3 : Int32, e3 = (v4 + 1) → K7 (e1) (e2) (e3)))
abbrev wp_X12_firsts_7  (Q : Int32 → Prop) (v1 : Int32) (v2 : Int32) (v3 : Int32) (v4 : Int32) (S : Hp) : Prop :=
  Lp (X := Int32 × Int32 × Int32) (fun K y => wb_X12_firsts_7  (fun w0 w1 w2 => K (w0, w1, w2)) Q v1 y.1 y.2.1 y.2.2 S) (v2, v3, v4)
abbrev wp_X12_firsts (x0 : Int32) (x1 : Int32) (S : Hp) (Q : Int32 → Prop) : Prop :=
  wp_X12_firsts_7 Q (x1) ((0 : Int32)) (x0) ((0 : Int32)) (S)
set_option maxHeartbeats 4000000 in
set_option maxRecDepth 100000 in
theorem gb_X12_firsts_7 (C : Cx p s m args meth c z cX12_firsts 5 RX12 (some .int) "firsts") {K7 : Int32 → Int32 → Int32 → Prop} {Q : Int32 → Prop} {v1 : Int32} {v2 : Int32} {v3 : Int32} {v4 : Int32} {S : Hp}  (hK7 : ∀ (w2 : Int32) (w3 : Int32) (w4 : Int32), K7 w2 w3 w4 → Go p l e { frames := 0, cells := 0, slots := 0, locals := 0 } s m args below meth c z 5 (MQ below (Qx z (pI S Q)) args s 0 0 (own z)) (0) (0) 7 [(1, .int (v1)), (2, .int (w2)), (3, .int (w3)), (4, .int (w4))] [] (S)) (hw : wb_X12_firsts_7  K7 Q v1 v2 v3 v4 S) : Go p l e { frames := 0, cells := 0, slots := 0, locals := 0 } s m args below meth c z 5 (MQ below (Qx z (pI S Q)) args s 0 0 (own z)) (0) (0) 7 [(1, .int (v1)), (2, .int (v2)), (3, .int (v3)), (4, .int (v4))] [] (S) := by
  refine G_iload (pc := 7) C 3 dX12_firsts_7 rfl ?_
  refine G_iload_n (pc := 9) C 0 dX12_firsts_9 rfl rfl ?_
  refine G_icmp_ge (pc := 10) C 32 dX12_firsts_10 (by decide) (fun hc => ?_) (fun hc => ?_)
  · have hw := hw.1 hc
    refine G_iload_n (pc := 32) C 1 dX12_firsts_32 rfl rfl ?_
    exact G_iret (pc := 33) C rfl dX12_firsts_33 ⟨rfl, _, rfl, hw⟩
  · have hw := hw.2 hc
    refine G_iload_n (pc := 13) C 1 dX12_firsts_13 rfl rfl ?_
    refine G_iload_n (pc := 14) C 2 dX12_firsts_14 rfl rfl ?_
    refine G_iload_n (pc := 15) C 2 dX12_firsts_15 rfl rfl ?_
    refine G_ineg (pc := 16) C dX12_firsts_16 ?_
    refine G_iand (pc := 17) C dX12_firsts_17 ?_
    refine G_ior (pc := 18) C dX12_firsts_18 ?_
    refine G_topi (fun e1 he1 => ?_)
    have hw := hw e1 he1
    clear he1
    refine G_istore_n (pc := 19) C [(2, .int (e1)), (1, .int (v1)), (3, .int (v3)), (4, .int (v4))] dX12_firsts_19 rfl (by decide) rfl ?_
    refine G_iload_n (pc := 20) C 2 dX12_firsts_20 rfl rfl ?_
    refine G_iload_n (pc := 21) C 2 dX12_firsts_21 rfl rfl ?_
    refine G_iconst (pc := 22) C (v := 1) dX12_firsts_22 (by decide) ?_
    refine G_isub (pc := 23) C dX12_firsts_23 ?_
    refine G_iand (pc := 24) C dX12_firsts_24 ?_
    refine G_topi (fun e2 he2 => ?_)
    have hw := hw e2 he2
    clear he2
    refine G_istore_n (pc := 25) C [(3, .int (e2)), (2, .int (e1)), (1, .int (v1)), (4, .int (v4))] dX12_firsts_25 rfl (by decide) rfl ?_
    obtain ⟨e3, he3⟩ : ∃ y : Int32, y = (v4 + 1) := ⟨_, rfl⟩
    have hw := hw e3 he3
    refine G_iinc (pc := 26) C [(4, .int (e3)), (3, .int (e2)), (2, .int (e1)), (1, .int (v1))] 3 (v := e3) dX12_firsts_26 rfl (by rw [he3]; rfl) (by decide) rfl ?_
    clear he3
    refine G_goto (pc := 29) C 7 dX12_firsts_29 (by decide) ?_
    exact G_sub [3, 2, 1, 0] rfl (hK7 _ _ _ hw)
set_option maxHeartbeats 4000000 in
set_option maxRecDepth 100000 in
theorem g_X12_firsts_7 (C : Cx p s m args meth c z cX12_firsts 5 RX12 (some .int) "firsts")  {Q : Int32 → Prop} {v1 : Int32} {v2 : Int32} {v3 : Int32} {v4 : Int32} {S : Hp}   (hw : wp_X12_firsts_7  Q v1 v2 v3 v4 S) : Go p l e { frames := 0, cells := 0, slots := 0, locals := 0 } s m args below meth c z 5 (MQ below (Qx z (pI S Q)) args s 0 0 (own z)) (0) (0) 7 [(1, .int (v1)), (2, .int (v2)), (3, .int (v3)), (4, .int (v4))] [] (S) :=
  Lp_go (G := fun y : Int32 × Int32 × Int32 => Go p l e { frames := 0, cells := 0, slots := 0, locals := 0 } s m args below meth c z 5 (MQ below (Qx z (pI S Q)) args s 0 0 (own z)) (0) (0) 7 [(1, .int (v1)), (2, .int (y.1)), (3, .int (y.2.1)), (4, .int (y.2.2))] [] (S)) (fun K y hK hB => gb_X12_firsts_7 C  (fun w0 w1 w2 h => hK (w0, w1, w2) h) hB) hw
set_option maxHeartbeats 4000000 in
set_option maxRecDepth 100000 in
theorem c_X12_firsts (l : Launch) (z : Zt) (x0 : Int32) (x1 : Int32) (S : Hp) (Q : Int32 → Prop) (hw : wp_X12_firsts x0 x1 S Q) : Ct l z yX12_firsts cX12_firsts 5 (some .int) 0 0 0 0 [.int (x0), .int (x1)] S (pI S Q) := by
  refine Ct_of (by decide) (Nat.le_of_ble_eq_true rfl) ?_
  intro p e s m args below meth c C
  have C : Cx p s m args meth c z cX12_firsts 5 RX12 (some .int) "firsts" := C
  refine G_sub (lv' := [(0, .int (x0)), (1, .int (x1))]) [0, 1] rfl ?_
  refine G_iconst (pc := 0) C (v := 0) dX12_firsts_0 (by decide) ?_
  refine G_istore_n (pc := 1) C [(2, .int ((0 : Int32))), (0, .int (x0)), (1, .int (x1))] dX12_firsts_1 rfl (by decide) rfl ?_
  refine G_iload_n (pc := 2) C 1 dX12_firsts_2 rfl rfl ?_
  refine G_istore_n (pc := 3) C [(3, .int (x0)), (2, .int ((0 : Int32))), (0, .int (x0)), (1, .int (x1))] dX12_firsts_3 rfl (by decide) rfl ?_
  refine G_iconst (pc := 4) C (v := 0) dX12_firsts_4 (by decide) ?_
  refine G_istore (pc := 5) C [(4, .int ((0 : Int32))), (3, .int (x0)), (2, .int ((0 : Int32))), (0, .int (x0)), (1, .int (x1))] dX12_firsts_5 (by decide) rfl ?_
  exact G_sub [4, 2, 1, 0] rfl (g_X12_firsts_7 C  hw)
/-! FirstPartsModel.at([III)I -/
abbrev wb_X12_at__8  (K8 : Int32 → Int32 → Prop) (Q : Int32 → Prop) (v1 : Nat) (v3 : Int32) (v4 : Int32) (v5 : Int32) (S : Hp) : Prop :=
  ((v5 < 0 → Q v4) ∧ (¬ v5 < 0 → kd S v1 = 20 ∧ vp_in v5 (ln S v1) ∧ wp_X12_value (v4) (v3) ((gI S 0 v1 (v5).toNatClampNeg)) S (fun e2 => ∀ e4 : Int32, e4 = (v5 + (-1)) → K8 (e2) (e4))))
abbrev wp_X12_at__8  (Q : Int32 → Prop) (v1 : Nat) (v3 : Int32) (v4 : Int32) (v5 : Int32) (S : Hp) : Prop :=
  Lp (X := Int32 × Int32) (fun K y => wb_X12_at__8  (fun w0 w1 => K (w0, w1)) Q v1 v3 y.1 y.2 S) (v4, v5)
abbrev wp_X12_at_ (a0 : Nat) (a1 : Nat) (x2 : Int32) (x3 : Int32) (S : Hp) (Q : Int32 → Prop) : Prop :=
  ∀ e1 : Int32, e1 = (x2 - (1 : Int32)) → wp_X12_at__8 Q (a1) (x3) ((0 : Int32)) (e1) (S)
set_option maxHeartbeats 4000000 in
set_option maxRecDepth 100000 in
theorem gb_X12_at__8 (C : Cx p s m args meth c z cX12_at_ 6 RX12 (some .int) "at") {K8 : Int32 → Int32 → Prop} {Q : Int32 → Prop} {v1 : Nat} {v3 : Int32} {v4 : Int32} {v5 : Int32} {S : Hp}  (hK8 : ∀ (w4 : Int32) (w5 : Int32), K8 w4 w5 → Go p l e { frames := 1, cells := 0, slots := 0, locals := 22 } s m args below meth c z 6 (MQ below (Qx z (pI S Q)) args s 0 0 (own z)) (0) (0) 8 [(1, .ref (v1)), (3, .int (v3)), (4, .int (w4)), (5, .int (w5))] [] (S)) (hw : wb_X12_at__8  K8 Q v1 v3 v4 v5 S) : Go p l e { frames := 1, cells := 0, slots := 0, locals := 22 } s m args below meth c z 6 (MQ below (Qx z (pI S Q)) args s 0 0 (own z)) (0) (0) 8 [(1, .ref (v1)), (3, .int (v3)), (4, .int (v4)), (5, .int (v5))] [] (S) := by
  refine G_iload (pc := 8) C 3 dX12_at__8 rfl ?_
  refine G_if_lt (pc := 10) C 31 dX12_at__10 (by decide) (fun hc => ?_) (fun hc => ?_)
  · have hw := hw.1 hc
    refine G_iload (pc := 31) C 2 dX12_at__31 rfl ?_
    exact G_iret (pc := 33) C rfl dX12_at__33 ⟨rfl, _, rfl, hw⟩
  · have hw := hw.2 hc
    refine G_iload (pc := 13) C 2 dX12_at__13 rfl ?_
    refine G_iload_n (pc := 15) C 1 dX12_at__15 rfl rfl ?_
    refine G_aload_n (pc := 16) C 0 dX12_at__16 rfl rfl ?_
    refine G_iload (pc := 17) C 3 dX12_at__17 rfl ?_
    obtain ⟨hk, hi, hw⟩ := hw
    refine G_iald (pc := 19) C hk hi dX12_at__19 ?_
    refine cl_RX12_132 (pc := 20) C (c_X12_value l z (v4) (v3) ((gI S 0 v1 (v5).toNatClampNeg)) S _ hw) ⟨Nat.le_of_ble_eq_true rfl, Nat.le_of_ble_eq_true rfl⟩ dX12_at__20 (Nat.le_of_ble_eq_true rfl) (fun v S' hp => ?_)
    clear hw
    obtain ⟨hS, e2, rfl, hw⟩ := hp
    subst S'
    refine G_istore (pc := 23) C [(4, .int (e2)), (1, .ref (v1)), (3, .int (v3)), (5, .int (v5))] dX12_at__23 (by decide) rfl ?_
    obtain ⟨e4, he4⟩ : ∃ y : Int32, y = (v5 + (-1)) := ⟨_, rfl⟩
    have hw := hw e4 he4
    refine G_iinc (pc := 25) C [(5, .int (e4)), (4, .int (e2)), (1, .ref (v1)), (3, .int (v3))] 3 (v := e4) dX12_at__25 rfl (by rw [he4]; rfl) (by decide) rfl ?_
    clear he4
    refine G_goto (pc := 28) C 8 dX12_at__28 (by decide) ?_
    exact G_sub [2, 3, 1, 0] rfl (hK8 _ _ hw)
set_option maxHeartbeats 4000000 in
set_option maxRecDepth 100000 in
theorem g_X12_at__8 (C : Cx p s m args meth c z cX12_at_ 6 RX12 (some .int) "at")  {Q : Int32 → Prop} {v1 : Nat} {v3 : Int32} {v4 : Int32} {v5 : Int32} {S : Hp}   (hw : wp_X12_at__8  Q v1 v3 v4 v5 S) : Go p l e { frames := 1, cells := 0, slots := 0, locals := 22 } s m args below meth c z 6 (MQ below (Qx z (pI S Q)) args s 0 0 (own z)) (0) (0) 8 [(1, .ref (v1)), (3, .int (v3)), (4, .int (v4)), (5, .int (v5))] [] (S) :=
  Lp_go (G := fun y : Int32 × Int32 => Go p l e { frames := 1, cells := 0, slots := 0, locals := 22 } s m args below meth c z 6 (MQ below (Qx z (pI S Q)) args s 0 0 (own z)) (0) (0) 8 [(1, .ref (v1)), (3, .int (v3)), (4, .int (y.1)), (5, .int (y.2))] [] (S)) (fun K y hK hB => gb_X12_at__8 C  (fun w0 w1 h => hK (w0, w1) h) hB) hw
set_option maxHeartbeats 4000000 in
set_option maxRecDepth 100000 in
theorem c_X12_at_ (l : Launch) (z : Zt) (a0 : Nat) (a1 : Nat) (x2 : Int32) (x3 : Int32) (S : Hp) (Q : Int32 → Prop) (hw : wp_X12_at_ a0 a1 x2 x3 S Q) : Ct l z yX12_at_ cX12_at_ 6 (some .int) 1 22 0 0 [.ref (a0), .ref (a1), .int (x2), .int (x3)] S (pI S Q) := by
  refine Ct_of (by decide) (Nat.le_of_ble_eq_true rfl) ?_
  intro p e s m args below meth c C
  have C : Cx p s m args meth c z cX12_at_ 6 RX12 (some .int) "at" := C
  refine G_sub (lv' := [(0, .ref (a0)), (1, .ref (a1)), (2, .int (x2)), (3, .int (x3))]) [0, 1, 2, 3] rfl ?_
  refine G_iconst (pc := 0) C (v := 0) dX12_at__0 (by decide) ?_
  refine G_istore (pc := 1) C [(4, .int ((0 : Int32))), (0, .ref (a0)), (1, .ref (a1)), (2, .int (x2)), (3, .int (x3))] dX12_at__1 (by decide) rfl ?_
  refine G_iload_n (pc := 3) C 3 dX12_at__3 rfl rfl ?_
  refine G_iconst (pc := 4) C (v := 1) dX12_at__4 (by decide) ?_
  refine G_isub (pc := 5) C dX12_at__5 ?_
  refine G_topi (fun e1 he1 => ?_)
  have hw := hw e1 he1
  clear he1
  refine G_istore (pc := 6) C [(5, .int (e1)), (4, .int ((0 : Int32))), (0, .ref (a0)), (1, .ref (a1)), (2, .int (x2)), (3, .int (x3))] dX12_at__6 (by decide) rfl ?_
  exact G_sub [3, 5, 1, 0] rfl (g_X12_at__8 C  hw)
/-! FirstPartsModel.lays(II)V -/
abbrev wp_X12_lays_221 (K41 : Int32 → Hp → Prop) (Q : Hp → Prop) (v0 : Nat) (v1 : Int32) (v2 : Int32) (v3 : Int32) (S : Hp) : Prop :=
  ∀ e1 : Int32, e1 = (v3 + 1) → K41 (e1) (S)
abbrev wp_X12_lays_197 (K41 : Int32 → Hp → Prop) (K168 : Int32 → Hp → Prop) (Q : Hp → Prop) (v0 : Nat) (v1 : Int32) (v2 : Int32) (v3 : Int32) (v4 : Int32) (v7 : Int32) (s0 : Int32) (s1 : Int32) (s2 : Option Nat) (S : Hp) : Prop :=
  kd S v0 = 13 ∧ ∃ b14, (gR S 205 v0 0) = some b14 ∧ kd S b14 = 20 ∧ vp_in v7 (ln S b14) ∧ ¬ (29 : Int32) = 0 ∧ ∃ b15, s2 = some b15 ∧ kd S b15 = 20 ∧ vp_in s1 (ln S b15) ∧ ∀ S16 : Hp, S16 = sI S 0 b15 (s1).toNatClampNeg ((s0 + (((29 : Int32) - v4) * (gI S 0 b14 (v7).toNatClampNeg))) - (s0 + (((29 : Int32) - v4) * (gI S 0 b14 (v7).toNatClampNeg))) / (29 : Int32) * (29 : Int32)) → ∀ e17 : Int32, e17 = (v7 + (-1)) → K168 (e17) (S16)
abbrev wb_X12_lays_168 (K41 : Int32 → Hp → Prop) (K168 : Int32 → Hp → Prop) (Q : Hp → Prop) (v0 : Nat) (v1 : Int32) (v2 : Int32) (v3 : Int32) (v4 : Int32) (v7 : Int32) (S : Hp) : Prop :=
  ((v7 < 0 → wp_X12_lays_221 K41 Q (v0) (v1) (v2) (v3) (S)) ∧ (¬ v7 < 0 → kd S v0 = 13 ∧ ((v7 ≤ 0 → wp_X12_lays_197 K41 K168 Q (v0) (v1) (v2) (v3) (v4) (v7) ((0 : Int32)) (v7) ((gR S 205 v0 0)) (S)) ∧ (¬ v7 ≤ 0 → kd S v0 = 13 ∧ ∃ b18, (gR S 205 v0 0) = some b18 ∧ kd S b18 = 20 ∧ vp_in (v7 - (1 : Int32)) (ln S b18) ∧ wp_X12_lays_197 K41 K168 Q (v0) (v1) (v2) (v3) (v4) (v7) ((gI S 0 b18 ((v7 - (1 : Int32))).toNatClampNeg)) (v7) (b18) (S)))))
abbrev wp_X12_lays_168 (K41 : Int32 → Hp → Prop) (Q : Hp → Prop) (v0 : Nat) (v1 : Int32) (v2 : Int32) (v3 : Int32) (v4 : Int32) (v7 : Int32) (S : Hp) : Prop :=
  Lp (X := Int32 × Hp) (fun K y => wb_X12_lays_168 K41 (fun w0 w1 => K (w0, w1)) Q v0 v1 v2 v3 v4 y.1 y.2) (v7, S)
abbrev wb_X12_lays_123 (K41 : Int32 → Hp → Prop) (K123 : Int32 → Hp → Prop) (Q : Hp → Prop) (v0 : Nat) (v1 : Int32) (v2 : Int32) (v3 : Int32) (v4 : Int32) (v6 : Int32) (v7 : Int32) (S : Hp) : Prop :=
  (((8 : Int32) ≤ v7 → wp_X12_lays_168 K41 Q (v0) (v1) (v2) (v3) (v4) ((8 : Int32)) (S)) ∧ (¬ (8 : Int32) ≤ v7 → kd S v0 = 13 ∧ kd S v0 = 13 ∧ ∃ b19, (gR S 204 v0 0) = some b19 ∧ kd S b19 = 20 ∧ vp_in v7 (ln S b19) ∧ kd S v0 = 13 ∧ ∃ b20, (gR S 205 v0 0) = some b20 ∧ kd S b20 = 20 ∧ vp_in v7 (ln S b20) ∧ ¬ (29 : Int32) = 0 ∧ kd S b19 = 20 ∧ vp_in v7 (ln S b19) ∧ ∀ S21 : Hp, S21 = sI S 0 b19 (v7).toNatClampNeg (((gI S 0 b19 (v7).toNatClampNeg) + (v6 * (gI S 0 b20 (v7).toNatClampNeg))) - ((gI S 0 b19 (v7).toNatClampNeg) + (v6 * (gI S 0 b20 (v7).toNatClampNeg))) / (29 : Int32) * (29 : Int32)) → ∀ e22 : Int32, e22 = (v7 + 1) → K123 (e22) (S21)))
abbrev wp_X12_lays_123 (K41 : Int32 → Hp → Prop) (Q : Hp → Prop) (v0 : Nat) (v1 : Int32) (v2 : Int32) (v3 : Int32) (v4 : Int32) (v6 : Int32) (v7 : Int32) (S : Hp) : Prop :=
  Lp (X := Int32 × Hp) (fun K y => wb_X12_lays_123 K41 (fun w0 w1 => K (w0, w1)) Q v0 v1 v2 v3 v4 v6 y.1 y.2) (v7, S)
abbrev wb_X12_lays_41  (K41 : Int32 → Hp → Prop) (Q : Hp → Prop) (v0 : Nat) (v1 : Int32) (v2 : Int32) (v3 : Int32) (S : Hp) : Prop :=
  (((8 : Int32) ≤ v3 → Q S) ∧ (¬ (8 : Int32) ≤ v3 → ((((v2 >>> (v3 &&& 31)) &&& (1 : Int32)) ≠ (1 : Int32) → wp_X12_lays_221 K41 Q (v0) (v1) (v2) (v3) (S)) ∧ (((v2 >>> (v3 &&& 31)) &&& (1 : Int32)) = (1 : Int32) → ∀ e2 : Int32, e2 = (v3 + (1 : Int32)) → kd S v0 = 13 ∧ ∃ b3, (gR S 193 v0 0) = some b3 ∧ kd S b3 = 20 ∧ vp_in (((450 : Int32) + ((40 : Int32) * v3)) + v1) (ln S b3) ∧ kd S v0 = 13 ∧ ∃ b4, (gR S 204 v0 0) = some b4 ∧ kd S v0 = 13 ∧ wp_X12_at_ (v0) (b4) ((8 : Int32)) (e2) S (fun e5 => ¬ (29 : Int32) = 0 ∧ ∀ e7 : Int32, e7 = ((((gI S 0 b3 ((((450 : Int32) + ((40 : Int32) * v3)) + v1)).toNatClampNeg) + (29 : Int32)) - e5) - (((gI S 0 b3 ((((450 : Int32) + ((40 : Int32) * v3)) + v1)).toNatClampNeg) + (29 : Int32)) - e5) / (29 : Int32) * (29 : Int32)) → kd S v0 = 13 ∧ ∃ b8, (gR S 205 v0 0) = some b8 ∧ kd S v0 = 13 ∧ wp_X12_at_ (v0) (b8) ((9 : Int32)) (e2) S (fun e9 => wp_X12_over (e9) S (fun e11 => ¬ (29 : Int32) = 0 ∧ ∀ e13 : Int32, e13 = ((e7 * e11) - (e7 * e11) / (29 : Int32) * (29 : Int32)) → wp_X12_lays_123 K41 Q (v0) (v1) (v2) (v3) (e2) (e13) ((0 : Int32)) (S))))))))
abbrev wp_X12_lays_41  (Q : Hp → Prop) (v0 : Nat) (v1 : Int32) (v2 : Int32) (v3 : Int32) (S : Hp) : Prop :=
  Lp (X := Int32 × Hp) (fun K y => wb_X12_lays_41  (fun w0 w1 => K (w0, w1)) Q v0 v1 v2 y.1 y.2) (v3, S)
abbrev wp_X12_lays_22 (K2 : Int32 → Hp → Prop) (Q : Hp → Prop) (v0 : Nat) (v1 : Int32) (v2 : Int32) (v3 : Int32) (s0 : Int32) (s1 : Int32) (s2 : Option Nat) (S : Hp) : Prop :=
  ∃ b23, s2 = some b23 ∧ kd S b23 = 20 ∧ vp_in s1 (ln S b23) ∧ ∀ S24 : Hp, S24 = sI S 0 b23 (s1).toNatClampNeg s0 → kd S24 v0 = 13 ∧ ¬ (8 : Int32) = 0 ∧ ∃ b25, (gR S24 204 v0 0) = some b25 ∧ kd S24 b25 = 20 ∧ vp_in (v3 - v3 / (8 : Int32) * (8 : Int32)) (ln S24 b25) ∧ ∀ S26 : Hp, S26 = sI S24 0 b25 ((v3 - v3 / (8 : Int32) * (8 : Int32))).toNatClampNeg (0 : Int32) → ∀ e27 : Int32, e27 = (v3 + 1) → K2 (e27) (S26)
abbrev wb_X12_lays_2  (K2 : Int32 → Hp → Prop) (Q : Hp → Prop) (v0 : Nat) (v1 : Int32) (v2 : Int32) (v3 : Int32) (S : Hp) : Prop :=
  (((9 : Int32) ≤ v3 → wp_X12_lays_41 Q (v0) (v1) (v2) ((0 : Int32)) (S)) ∧ (¬ (9 : Int32) ≤ v3 → kd S v0 = 13 ∧ ((v3 ≠ 0 → wp_X12_lays_22 K2 Q (v0) (v1) (v2) (v3) ((0 : Int32)) (v3) ((gR S 205 v0 0)) (S)) ∧ (v3 = 0 → wp_X12_lays_22 K2 Q (v0) (v1) (v2) (v3) ((1 : Int32)) (v3) ((gR S 205 v0 0)) (S)))))
abbrev wp_X12_lays_2  (Q : Hp → Prop) (v0 : Nat) (v1 : Int32) (v2 : Int32) (v3 : Int32) (S : Hp) : Prop :=
  Lp (X := Int32 × Hp) (fun K y => wb_X12_lays_2  (fun w0 w1 => K (w0, w1)) Q v0 v1 v2 y.1 y.2) (v3, S)
abbrev wp_X12_lays (a0 : Nat) (x1 : Int32) (x2 : Int32) (S : Hp) (Q : Hp → Prop) : Prop :=
  wp_X12_lays_2 Q (a0) (x1) (x2) ((0 : Int32)) (S)
set_option maxHeartbeats 4000000 in
set_option maxRecDepth 100000 in
theorem g_X12_lays_221 (C : Cx p s m args meth c z cX12_lays 8 RX12 none "lays") {K41 : Int32 → Hp → Prop} {Q : Hp → Prop} {v0 : Nat} {v1 : Int32} {v2 : Int32} {v3 : Int32} {S : Hp}  (hK41 : ∀ (w3 : Int32) (S2 : Hp), K41 w3 S2 → Go p l e { frames := 2, cells := 0, slots := 0, locals := 47 } s m args below meth c z 8 (MQ below (Qx z (wV Q)) args s 0 0 (own z)) (0) (0) 41 [(0, .ref (v0)), (1, .int (v1)), (2, .int (v2)), (3, .int (w3))] [] (S2)) (hw : wp_X12_lays_221 K41 Q v0 v1 v2 v3 S) : Go p l e { frames := 2, cells := 0, slots := 0, locals := 47 } s m args below meth c z 8 (MQ below (Qx z (wV Q)) args s 0 0 (own z)) (0) (0) 221 [(0, .ref (v0)), (1, .int (v1)), (2, .int (v2)), (3, .int (v3))] [] (S) := by
  obtain ⟨e1, he1⟩ : ∃ y : Int32, y = (v3 + 1) := ⟨_, rfl⟩
  have hw := hw e1 he1
  refine G_iinc (pc := 221) C [(3, .int (e1)), (0, .ref (v0)), (1, .int (v1)), (2, .int (v2))] 3 (v := e1) dX12_lays_221 rfl (by rw [he1]; rfl) (by decide) rfl ?_
  clear he1
  refine G_goto (pc := 224) C 41 dX12_lays_224 (by decide) ?_
  exact G_sub [1, 2, 3, 0] rfl (hK41 _ _ hw)
set_option maxHeartbeats 4000000 in
set_option maxRecDepth 100000 in
theorem g_X12_lays_197 (C : Cx p s m args meth c z cX12_lays 8 RX12 none "lays") {K41 : Int32 → Hp → Prop} {K168 : Int32 → Hp → Prop} {Q : Hp → Prop} {v0 : Nat} {v1 : Int32} {v2 : Int32} {v3 : Int32} {v4 : Int32} {v7 : Int32} {s0 : Int32} {s1 : Int32} {s2 : Option Nat} {S : Hp}  (hK41 : ∀ (w3 : Int32) (S2 : Hp), K41 w3 S2 → Go p l e { frames := 2, cells := 0, slots := 0, locals := 47 } s m args below meth c z 8 (MQ below (Qx z (wV Q)) args s 0 0 (own z)) (0) (0) 41 [(0, .ref (v0)), (1, .int (v1)), (2, .int (v2)), (3, .int (w3))] [] (S2)) (hK168 : ∀ (w7 : Int32) (S2 : Hp), K168 w7 S2 → Go p l e { frames := 2, cells := 0, slots := 0, locals := 47 } s m args below meth c z 8 (MQ below (Qx z (wV Q)) args s 0 0 (own z)) (0) (0) 168 [(0, .ref (v0)), (1, .int (v1)), (2, .int (v2)), (3, .int (v3)), (4, .int (v4)), (7, .int (w7))] [] (S2)) (hw : wp_X12_lays_197 K41 K168 Q v0 v1 v2 v3 v4 v7 s0 s1 s2 S) : Go p l e { frames := 2, cells := 0, slots := 0, locals := 47 } s m args below meth c z 8 (MQ below (Qx z (wV Q)) args s 0 0 (own z)) (0) (0) 197 [(0, .ref (v0)), (1, .int (v1)), (2, .int (v2)), (3, .int (v3)), (4, .int (v4)), (7, .int (v7))] [.int (s0), .int (s1), va_rf (s2)] (S) := by
  refine G_bipush (pc := 197) C (v := 29) dX12_lays_197 (by decide) ?_
  refine G_iload (pc := 199) C 4 dX12_lays_199 rfl ?_
  refine G_isub (pc := 201) C dX12_lays_201 ?_
  refine G_aload_n (pc := 202) C 0 dX12_lays_202 rfl rfl ?_
  obtain ⟨hk, hw⟩ := hw
  refine gf_RX12_25 (pc := 203) C dX12_lays_203 hk ?_
  refine G_iload (pc := 206) C 5 dX12_lays_206 rfl ?_
  obtain ⟨b14, hq, hw⟩ := hw
  rw [hq]
  obtain ⟨hk, hi, hw⟩ := hw
  refine G_iald (pc := 208) C hk hi dX12_lays_208 ?_
  refine G_imul (pc := 209) C dX12_lays_209 ?_
  refine G_iadd (pc := 210) C dX12_lays_210 ?_
  refine G_bipush (pc := 211) C (v := 29) dX12_lays_211 (by decide) ?_
  obtain ⟨h0, hw⟩ := hw
  refine G_irem (pc := 213) C dX12_lays_213 h0 ?_
  obtain ⟨b15, hq, hw⟩ := hw
  rw [hq]
  obtain ⟨hk, hi, hw⟩ := hw
  refine G_iast (pc := 214) C hk hi dX12_lays_214 ?_
  obtain ⟨S16, hS16⟩ : ∃ y : Hp, y = sI S 0 b15 (s1).toNatClampNeg ((s0 + (((29 : Int32) - v4) * (gI S 0 b14 (v7).toNatClampNeg))) - (s0 + (((29 : Int32) - v4) * (gI S 0 b14 (v7).toNatClampNeg))) / (29 : Int32) * (29 : Int32)) := ⟨_, rfl⟩
  have hw := hw S16 hS16
  rw [← hS16]
  clear hS16
  obtain ⟨e17, he17⟩ : ∃ y : Int32, y = (v7 + (-1)) := ⟨_, rfl⟩
  have hw := hw e17 he17
  refine G_iinc (pc := 215) C [(7, .int (e17)), (0, .ref (v0)), (1, .int (v1)), (2, .int (v2)), (3, .int (v3)), (4, .int (v4))] 5 (v := e17) dX12_lays_215 rfl (by rw [he17]; rfl) (by decide) rfl ?_
  clear he17
  refine G_goto (pc := 218) C 168 dX12_lays_218 (by decide) ?_
  exact G_sub [1, 2, 3, 4, 5, 0] rfl (hK168 _ _ hw)
set_option maxHeartbeats 4000000 in
set_option maxRecDepth 100000 in
theorem gb_X12_lays_168 (C : Cx p s m args meth c z cX12_lays 8 RX12 none "lays") {K41 : Int32 → Hp → Prop} {K168 : Int32 → Hp → Prop} {Q : Hp → Prop} {v0 : Nat} {v1 : Int32} {v2 : Int32} {v3 : Int32} {v4 : Int32} {v7 : Int32} {S : Hp}  (hK41 : ∀ (w3 : Int32) (S2 : Hp), K41 w3 S2 → Go p l e { frames := 2, cells := 0, slots := 0, locals := 47 } s m args below meth c z 8 (MQ below (Qx z (wV Q)) args s 0 0 (own z)) (0) (0) 41 [(0, .ref (v0)), (1, .int (v1)), (2, .int (v2)), (3, .int (w3))] [] (S2)) (hK168 : ∀ (w7 : Int32) (S2 : Hp), K168 w7 S2 → Go p l e { frames := 2, cells := 0, slots := 0, locals := 47 } s m args below meth c z 8 (MQ below (Qx z (wV Q)) args s 0 0 (own z)) (0) (0) 168 [(0, .ref (v0)), (1, .int (v1)), (2, .int (v2)), (3, .int (v3)), (4, .int (v4)), (7, .int (w7))] [] (S2)) (hw : wb_X12_lays_168 K41 K168 Q v0 v1 v2 v3 v4 v7 S) : Go p l e { frames := 2, cells := 0, slots := 0, locals := 47 } s m args below meth c z 8 (MQ below (Qx z (wV Q)) args s 0 0 (own z)) (0) (0) 168 [(0, .ref (v0)), (1, .int (v1)), (2, .int (v2)), (3, .int (v3)), (4, .int (v4)), (7, .int (v7))] [] (S) := by
  refine G_iload (pc := 168) C 5 dX12_lays_168 rfl ?_
  refine G_if_lt (pc := 170) C 221 dX12_lays_170 (by decide) (fun hc => ?_) (fun hc => ?_)
  · have hw := hw.1 hc
    exact G_sub [0, 1, 2, 3] rfl (g_X12_lays_221 C hK41 hw)
  · have hw := hw.2 hc
    refine G_aload_n (pc := 173) C 0 dX12_lays_173 rfl rfl ?_
    obtain ⟨hk, hw⟩ := hw
    refine gf_RX12_25 (pc := 174) C dX12_lays_174 hk ?_
    refine G_iload (pc := 177) C 5 dX12_lays_177 rfl ?_
    refine G_iload (pc := 179) C 5 dX12_lays_179 rfl ?_
    refine G_if_le (pc := 181) C 196 dX12_lays_181 (by decide) (fun hc => ?_) (fun hc => ?_)
    · have hw := hw.1 hc
      refine G_iconst (pc := 196) C (v := 0) dX12_lays_196 (by decide) ?_
      exact G_sub [0, 1, 2, 3, 4, 5] rfl (g_X12_lays_197 C hK41 hK168 hw)
    · have hw := hw.2 hc
      refine G_aload_n (pc := 184) C 0 dX12_lays_184 rfl rfl ?_
      obtain ⟨hk, hw⟩ := hw
      refine gf_RX12_25 (pc := 185) C dX12_lays_185 hk ?_
      refine G_iload (pc := 188) C 5 dX12_lays_188 rfl ?_
      refine G_iconst (pc := 190) C (v := 1) dX12_lays_190 (by decide) ?_
      refine G_isub (pc := 191) C dX12_lays_191 ?_
      obtain ⟨b18, hq, hw⟩ := hw
      rw [hq]
      obtain ⟨hk, hi, hw⟩ := hw
      refine G_iald (pc := 192) C hk hi dX12_lays_192 ?_
      refine G_goto (pc := 193) C 197 dX12_lays_193 (by decide) ?_
      exact G_sub [0, 1, 2, 3, 4, 5] rfl (g_X12_lays_197 C hK41 hK168 hw)
set_option maxHeartbeats 4000000 in
set_option maxRecDepth 100000 in
theorem g_X12_lays_168 (C : Cx p s m args meth c z cX12_lays 8 RX12 none "lays") {K41 : Int32 → Hp → Prop} {Q : Hp → Prop} {v0 : Nat} {v1 : Int32} {v2 : Int32} {v3 : Int32} {v4 : Int32} {v7 : Int32} {S : Hp}  (hK41 : ∀ (w3 : Int32) (S2 : Hp), K41 w3 S2 → Go p l e { frames := 2, cells := 0, slots := 0, locals := 47 } s m args below meth c z 8 (MQ below (Qx z (wV Q)) args s 0 0 (own z)) (0) (0) 41 [(0, .ref (v0)), (1, .int (v1)), (2, .int (v2)), (3, .int (w3))] [] (S2)) (hw : wp_X12_lays_168 K41 Q v0 v1 v2 v3 v4 v7 S) : Go p l e { frames := 2, cells := 0, slots := 0, locals := 47 } s m args below meth c z 8 (MQ below (Qx z (wV Q)) args s 0 0 (own z)) (0) (0) 168 [(0, .ref (v0)), (1, .int (v1)), (2, .int (v2)), (3, .int (v3)), (4, .int (v4)), (7, .int (v7))] [] (S) :=
  Lp_go (G := fun y : Int32 × Hp => Go p l e { frames := 2, cells := 0, slots := 0, locals := 47 } s m args below meth c z 8 (MQ below (Qx z (wV Q)) args s 0 0 (own z)) (0) (0) 168 [(0, .ref (v0)), (1, .int (v1)), (2, .int (v2)), (3, .int (v3)), (4, .int (v4)), (7, .int (y.1))] [] (y.2)) (fun K y hK hB => gb_X12_lays_168 C hK41 (fun w0 w1 h => hK (w0, w1) h) hB) hw
set_option maxHeartbeats 4000000 in
set_option maxRecDepth 100000 in
theorem gb_X12_lays_123 (C : Cx p s m args meth c z cX12_lays 8 RX12 none "lays") {K41 : Int32 → Hp → Prop} {K123 : Int32 → Hp → Prop} {Q : Hp → Prop} {v0 : Nat} {v1 : Int32} {v2 : Int32} {v3 : Int32} {v4 : Int32} {v6 : Int32} {v7 : Int32} {S : Hp}  (hK41 : ∀ (w3 : Int32) (S2 : Hp), K41 w3 S2 → Go p l e { frames := 2, cells := 0, slots := 0, locals := 47 } s m args below meth c z 8 (MQ below (Qx z (wV Q)) args s 0 0 (own z)) (0) (0) 41 [(0, .ref (v0)), (1, .int (v1)), (2, .int (v2)), (3, .int (w3))] [] (S2)) (hK123 : ∀ (w7 : Int32) (S2 : Hp), K123 w7 S2 → Go p l e { frames := 2, cells := 0, slots := 0, locals := 47 } s m args below meth c z 8 (MQ below (Qx z (wV Q)) args s 0 0 (own z)) (0) (0) 123 [(0, .ref (v0)), (1, .int (v1)), (2, .int (v2)), (3, .int (v3)), (4, .int (v4)), (6, .int (v6)), (7, .int (w7))] [] (S2)) (hw : wb_X12_lays_123 K41 K123 Q v0 v1 v2 v3 v4 v6 v7 S) : Go p l e { frames := 2, cells := 0, slots := 0, locals := 47 } s m args below meth c z 8 (MQ below (Qx z (wV Q)) args s 0 0 (own z)) (0) (0) 123 [(0, .ref (v0)), (1, .int (v1)), (2, .int (v2)), (3, .int (v3)), (4, .int (v4)), (6, .int (v6)), (7, .int (v7))] [] (S) := by
  refine G_iload (pc := 123) C 6 dX12_lays_123 rfl ?_
  refine G_bipush (pc := 125) C (v := 8) dX12_lays_125 (by decide) ?_
  refine G_icmp_ge (pc := 127) C 164 dX12_lays_127 (by decide) (fun hc => ?_) (fun hc => ?_)
  · have hw := hw.1 hc
    refine G_bipush (pc := 164) C (v := 8) dX12_lays_164 (by decide) ?_
    refine G_istore (pc := 166) C [(7, .int ((8 : Int32))), (0, .ref (v0)), (1, .int (v1)), (2, .int (v2)), (3, .int (v3)), (4, .int (v4)), (6, .int (v6))] dX12_lays_166 (by decide) rfl ?_
    exact G_sub [1, 2, 3, 4, 5, 0] rfl (g_X12_lays_168 C hK41 hw)
  · have hw := hw.2 hc
    refine G_aload_n (pc := 130) C 0 dX12_lays_130 rfl rfl ?_
    obtain ⟨hk, hw⟩ := hw
    refine gf_RX12_22 (pc := 131) C dX12_lays_131 hk ?_
    refine G_iload (pc := 134) C 6 dX12_lays_134 rfl ?_
    refine G_aload_n (pc := 136) C 0 dX12_lays_136 rfl rfl ?_
    obtain ⟨hk, hw⟩ := hw
    refine gf_RX12_22 (pc := 137) C dX12_lays_137 hk ?_
    refine G_iload (pc := 140) C 6 dX12_lays_140 rfl ?_
    obtain ⟨b19, hq, hw⟩ := hw
    rw [hq]
    obtain ⟨hk, hi, hw⟩ := hw
    refine G_iald (pc := 142) C hk hi dX12_lays_142 ?_
    refine G_iload (pc := 143) C 5 dX12_lays_143 rfl ?_
    refine G_aload_n (pc := 145) C 0 dX12_lays_145 rfl rfl ?_
    obtain ⟨hk, hw⟩ := hw
    refine gf_RX12_25 (pc := 146) C dX12_lays_146 hk ?_
    refine G_iload (pc := 149) C 6 dX12_lays_149 rfl ?_
    obtain ⟨b20, hq, hw⟩ := hw
    rw [hq]
    obtain ⟨hk, hi, hw⟩ := hw
    refine G_iald (pc := 151) C hk hi dX12_lays_151 ?_
    refine G_imul (pc := 152) C dX12_lays_152 ?_
    refine G_iadd (pc := 153) C dX12_lays_153 ?_
    refine G_bipush (pc := 154) C (v := 29) dX12_lays_154 (by decide) ?_
    obtain ⟨h0, hw⟩ := hw
    refine G_irem (pc := 156) C dX12_lays_156 h0 ?_
    obtain ⟨hk, hi, hw⟩ := hw
    refine G_iast (pc := 157) C hk hi dX12_lays_157 ?_
    obtain ⟨S21, hS21⟩ : ∃ y : Hp, y = sI S 0 b19 (v7).toNatClampNeg (((gI S 0 b19 (v7).toNatClampNeg) + (v6 * (gI S 0 b20 (v7).toNatClampNeg))) - ((gI S 0 b19 (v7).toNatClampNeg) + (v6 * (gI S 0 b20 (v7).toNatClampNeg))) / (29 : Int32) * (29 : Int32)) := ⟨_, rfl⟩
    have hw := hw S21 hS21
    rw [← hS21]
    clear hS21
    obtain ⟨e22, he22⟩ : ∃ y : Int32, y = (v7 + 1) := ⟨_, rfl⟩
    have hw := hw e22 he22
    refine G_iinc (pc := 158) C [(7, .int (e22)), (0, .ref (v0)), (1, .int (v1)), (2, .int (v2)), (3, .int (v3)), (4, .int (v4)), (6, .int (v6))] 6 (v := e22) dX12_lays_158 rfl (by rw [he22]; rfl) (by decide) rfl ?_
    clear he22
    refine G_goto (pc := 161) C 123 dX12_lays_161 (by decide) ?_
    exact G_sub [1, 2, 3, 4, 5, 6, 0] rfl (hK123 _ _ hw)
set_option maxHeartbeats 4000000 in
set_option maxRecDepth 100000 in
theorem g_X12_lays_123 (C : Cx p s m args meth c z cX12_lays 8 RX12 none "lays") {K41 : Int32 → Hp → Prop} {Q : Hp → Prop} {v0 : Nat} {v1 : Int32} {v2 : Int32} {v3 : Int32} {v4 : Int32} {v6 : Int32} {v7 : Int32} {S : Hp}  (hK41 : ∀ (w3 : Int32) (S2 : Hp), K41 w3 S2 → Go p l e { frames := 2, cells := 0, slots := 0, locals := 47 } s m args below meth c z 8 (MQ below (Qx z (wV Q)) args s 0 0 (own z)) (0) (0) 41 [(0, .ref (v0)), (1, .int (v1)), (2, .int (v2)), (3, .int (w3))] [] (S2)) (hw : wp_X12_lays_123 K41 Q v0 v1 v2 v3 v4 v6 v7 S) : Go p l e { frames := 2, cells := 0, slots := 0, locals := 47 } s m args below meth c z 8 (MQ below (Qx z (wV Q)) args s 0 0 (own z)) (0) (0) 123 [(0, .ref (v0)), (1, .int (v1)), (2, .int (v2)), (3, .int (v3)), (4, .int (v4)), (6, .int (v6)), (7, .int (v7))] [] (S) :=
  Lp_go (G := fun y : Int32 × Hp => Go p l e { frames := 2, cells := 0, slots := 0, locals := 47 } s m args below meth c z 8 (MQ below (Qx z (wV Q)) args s 0 0 (own z)) (0) (0) 123 [(0, .ref (v0)), (1, .int (v1)), (2, .int (v2)), (3, .int (v3)), (4, .int (v4)), (6, .int (v6)), (7, .int (y.1))] [] (y.2)) (fun K y hK hB => gb_X12_lays_123 C hK41 (fun w0 w1 h => hK (w0, w1) h) hB) hw
set_option maxHeartbeats 4000000 in
set_option maxRecDepth 100000 in
theorem gb_X12_lays_41 (C : Cx p s m args meth c z cX12_lays 8 RX12 none "lays") {K41 : Int32 → Hp → Prop} {Q : Hp → Prop} {v0 : Nat} {v1 : Int32} {v2 : Int32} {v3 : Int32} {S : Hp}  (hK41 : ∀ (w3 : Int32) (S2 : Hp), K41 w3 S2 → Go p l e { frames := 2, cells := 0, slots := 0, locals := 47 } s m args below meth c z 8 (MQ below (Qx z (wV Q)) args s 0 0 (own z)) (0) (0) 41 [(0, .ref (v0)), (1, .int (v1)), (2, .int (v2)), (3, .int (w3))] [] (S2)) (hw : wb_X12_lays_41  K41 Q v0 v1 v2 v3 S) : Go p l e { frames := 2, cells := 0, slots := 0, locals := 47 } s m args below meth c z 8 (MQ below (Qx z (wV Q)) args s 0 0 (own z)) (0) (0) 41 [(0, .ref (v0)), (1, .int (v1)), (2, .int (v2)), (3, .int (v3))] [] (S) := by
  refine G_iload_n (pc := 41) C 3 dX12_lays_41 rfl rfl ?_
  refine G_bipush (pc := 42) C (v := 8) dX12_lays_42 (by decide) ?_
  refine G_icmp_ge (pc := 44) C 227 dX12_lays_44 (by decide) (fun hc => ?_) (fun hc => ?_)
  · have hw := hw.1 hc
    exact G_vret (pc := 227) C rfl dX12_lays_227 ⟨rfl, hw⟩
  · have hw := hw.2 hc
    refine G_iload_n (pc := 47) C 2 dX12_lays_47 rfl rfl ?_
    refine G_iload_n (pc := 48) C 3 dX12_lays_48 rfl rfl ?_
    refine G_ishr (pc := 49) C dX12_lays_49 ?_
    refine G_iconst (pc := 50) C (v := 1) dX12_lays_50 (by decide) ?_
    refine G_iand (pc := 51) C dX12_lays_51 ?_
    refine G_iconst (pc := 52) C (v := 1) dX12_lays_52 (by decide) ?_
    refine G_icmp_ne (pc := 53) C 221 dX12_lays_53 (by decide) (fun hc => ?_) (fun hc => ?_)
    · have hw := hw.1 hc
      exact G_sub [0, 1, 2, 3] rfl (g_X12_lays_221 C hK41 hw)
    · have hw := hw.2 hc
      refine G_iload_n (pc := 56) C 3 dX12_lays_56 rfl rfl ?_
      refine G_iconst (pc := 57) C (v := 1) dX12_lays_57 (by decide) ?_
      refine G_iadd (pc := 58) C dX12_lays_58 ?_
      refine G_topi (fun e2 he2 => ?_)
      have hw := hw e2 he2
      clear he2
      refine G_istore (pc := 59) C [(4, .int (e2)), (0, .ref (v0)), (1, .int (v1)), (2, .int (v2)), (3, .int (v3))] dX12_lays_59 (by decide) rfl ?_
      refine G_aload_n (pc := 61) C 1 dX12_lays_61 rfl rfl ?_
      obtain ⟨hk, hw⟩ := hw
      refine gf_RX12_7 (pc := 62) C dX12_lays_62 hk ?_
      refine G_sipush (pc := 65) C (v := 450) dX12_lays_65 (by decide) ?_
      refine G_bipush (pc := 68) C (v := 40) dX12_lays_68 (by decide) ?_
      refine G_iload_n (pc := 70) C 4 dX12_lays_70 rfl rfl ?_
      refine G_imul (pc := 71) C dX12_lays_71 ?_
      refine G_iadd (pc := 72) C dX12_lays_72 ?_
      refine G_iload_n (pc := 73) C 2 dX12_lays_73 rfl rfl ?_
      refine G_iadd (pc := 74) C dX12_lays_74 ?_
      obtain ⟨b3, hq, hw⟩ := hw
      rw [hq]
      obtain ⟨hk, hi, hw⟩ := hw
      refine G_iald (pc := 75) C hk hi dX12_lays_75 ?_
      refine G_bipush (pc := 76) C (v := 29) dX12_lays_76 (by decide) ?_
      refine G_iadd (pc := 78) C dX12_lays_78 ?_
      refine G_aload_n (pc := 79) C 1 dX12_lays_79 rfl rfl ?_
      refine G_aload_n (pc := 80) C 1 dX12_lays_80 rfl rfl ?_
      obtain ⟨hk, hw⟩ := hw
      refine gf_RX12_22 (pc := 81) C dX12_lays_81 hk ?_
      refine G_bipush (pc := 84) C (v := 8) dX12_lays_84 (by decide) ?_
      refine G_iload (pc := 86) C 0 dX12_lays_86 rfl ?_
      obtain ⟨b4, hq, hw⟩ := hw
      rw [hq]
      obtain ⟨hk, hw⟩ := hw
      refine cl_RX12_154 (pc := 88) C (c_X12_at_ l z (v0) (b4) ((8 : Int32)) (e2) S _ hw) ⟨Nat.le_of_ble_eq_true rfl, Nat.le_of_ble_eq_true rfl⟩ hk dX12_lays_88 (Nat.le_of_ble_eq_true rfl) (fun v S' hp => ?_)
      clear hw
      obtain ⟨hS, e5, rfl, hw⟩ := hp
      subst S'
      refine G_isub (pc := 91) C dX12_lays_91 ?_
      refine G_bipush (pc := 92) C (v := 29) dX12_lays_92 (by decide) ?_
      obtain ⟨h0, hw⟩ := hw
      refine G_irem (pc := 94) C dX12_lays_94 h0 ?_
      refine G_topi (fun e7 he7 => ?_)
      have hw := hw e7 he7
      clear he7
      refine G_istore (pc := 95) C [(5, .int (e7)), (4, .int (e2)), (0, .ref (v0)), (1, .int (v1)), (2, .int (v2)), (3, .int (v3))] dX12_lays_95 (by decide) rfl ?_
      refine G_iload (pc := 97) C 0 dX12_lays_97 rfl ?_
      refine G_aload_n (pc := 99) C 2 dX12_lays_99 rfl rfl ?_
      refine G_aload_n (pc := 100) C 2 dX12_lays_100 rfl rfl ?_
      obtain ⟨hk, hw⟩ := hw
      refine gf_RX12_25 (pc := 101) C dX12_lays_101 hk ?_
      refine G_bipush (pc := 104) C (v := 9) dX12_lays_104 (by decide) ?_
      refine G_iload (pc := 106) C 1 dX12_lays_106 rfl ?_
      obtain ⟨b8, hq, hw⟩ := hw
      rw [hq]
      obtain ⟨hk, hw⟩ := hw
      refine cl_RX12_154 (pc := 108) C (c_X12_at_ l z (v0) (b8) ((9 : Int32)) (e2) S _ hw) ⟨Nat.le_of_ble_eq_true rfl, Nat.le_of_ble_eq_true rfl⟩ hk dX12_lays_108 (Nat.le_of_ble_eq_true rfl) (fun v S' hp => ?_)
      clear hw
      obtain ⟨hS, e9, rfl, hw⟩ := hp
      subst S'
      refine cl_RX12_157 (pc := 111) C (c_X12_over l z (e9) S _ hw) ⟨Nat.le_of_ble_eq_true rfl, Nat.le_of_ble_eq_true rfl⟩ dX12_lays_111 (Nat.le_of_ble_eq_true rfl) (fun v S' hp => ?_)
      clear hw
      obtain ⟨hS, e11, rfl, hw⟩ := hp
      subst S'
      refine G_imul (pc := 114) C dX12_lays_114 ?_
      refine G_bipush (pc := 115) C (v := 29) dX12_lays_115 (by decide) ?_
      obtain ⟨h0, hw⟩ := hw
      refine G_irem (pc := 117) C dX12_lays_117 h0 ?_
      refine G_topi (fun e13 he13 => ?_)
      have hw := hw e13 he13
      clear he13
      refine G_istore (pc := 118) C [(6, .int (e13)), (5, .int (e7)), (4, .int (e2)), (0, .ref (v0)), (1, .int (v1)), (2, .int (v2)), (3, .int (v3))] dX12_lays_118 (by decide) rfl ?_
      refine G_iconst (pc := 120) C (v := 0) dX12_lays_120 (by decide) ?_
      refine G_istore (pc := 121) C [(7, .int ((0 : Int32))), (6, .int (e13)), (5, .int (e7)), (4, .int (e2)), (0, .ref (v0)), (1, .int (v1)), (2, .int (v2)), (3, .int (v3))] dX12_lays_121 (by decide) rfl ?_
      exact G_sub [4, 5, 6, 7, 3, 1, 0] rfl (g_X12_lays_123 C hK41 hw)
set_option maxHeartbeats 4000000 in
set_option maxRecDepth 100000 in
theorem g_X12_lays_41 (C : Cx p s m args meth c z cX12_lays 8 RX12 none "lays")  {Q : Hp → Prop} {v0 : Nat} {v1 : Int32} {v2 : Int32} {v3 : Int32} {S : Hp}   (hw : wp_X12_lays_41  Q v0 v1 v2 v3 S) : Go p l e { frames := 2, cells := 0, slots := 0, locals := 47 } s m args below meth c z 8 (MQ below (Qx z (wV Q)) args s 0 0 (own z)) (0) (0) 41 [(0, .ref (v0)), (1, .int (v1)), (2, .int (v2)), (3, .int (v3))] [] (S) :=
  Lp_go (G := fun y : Int32 × Hp => Go p l e { frames := 2, cells := 0, slots := 0, locals := 47 } s m args below meth c z 8 (MQ below (Qx z (wV Q)) args s 0 0 (own z)) (0) (0) 41 [(0, .ref (v0)), (1, .int (v1)), (2, .int (v2)), (3, .int (y.1))] [] (y.2)) (fun K y hK hB => gb_X12_lays_41 C  (fun w0 w1 h => hK (w0, w1) h) hB) hw
set_option maxHeartbeats 4000000 in
set_option maxRecDepth 100000 in
theorem g_X12_lays_22 (C : Cx p s m args meth c z cX12_lays 8 RX12 none "lays") {K2 : Int32 → Hp → Prop} {Q : Hp → Prop} {v0 : Nat} {v1 : Int32} {v2 : Int32} {v3 : Int32} {s0 : Int32} {s1 : Int32} {s2 : Option Nat} {S : Hp}  (hK2 : ∀ (w3 : Int32) (S2 : Hp), K2 w3 S2 → Go p l e { frames := 2, cells := 0, slots := 0, locals := 47 } s m args below meth c z 8 (MQ below (Qx z (wV Q)) args s 0 0 (own z)) (0) (0) 2 [(0, .ref (v0)), (1, .int (v1)), (2, .int (v2)), (3, .int (w3))] [] (S2)) (hw : wp_X12_lays_22 K2 Q v0 v1 v2 v3 s0 s1 s2 S) : Go p l e { frames := 2, cells := 0, slots := 0, locals := 47 } s m args below meth c z 8 (MQ below (Qx z (wV Q)) args s 0 0 (own z)) (0) (0) 22 [(0, .ref (v0)), (1, .int (v1)), (2, .int (v2)), (3, .int (v3))] [.int (s0), .int (s1), va_rf (s2)] (S) := by
  obtain ⟨b23, hq, hw⟩ := hw
  rw [hq]
  obtain ⟨hk, hi, hw⟩ := hw
  refine G_iast (pc := 22) C hk hi dX12_lays_22 ?_
  obtain ⟨S24, hS24⟩ : ∃ y : Hp, y = sI S 0 b23 (s1).toNatClampNeg s0 := ⟨_, rfl⟩
  have hw := hw S24 hS24
  rw [← hS24]
  clear hS24
  refine G_aload_n (pc := 23) C 0 dX12_lays_23 rfl rfl ?_
  obtain ⟨hk, hw⟩ := hw
  refine gf_RX12_22 (pc := 24) C dX12_lays_24 hk ?_
  refine G_iload_n (pc := 27) C 3 dX12_lays_27 rfl rfl ?_
  refine G_bipush (pc := 28) C (v := 8) dX12_lays_28 (by decide) ?_
  obtain ⟨h0, hw⟩ := hw
  refine G_irem (pc := 30) C dX12_lays_30 h0 ?_
  refine G_iconst (pc := 31) C (v := 0) dX12_lays_31 (by decide) ?_
  obtain ⟨b25, hq, hw⟩ := hw
  rw [hq]
  obtain ⟨hk, hi, hw⟩ := hw
  refine G_iast (pc := 32) C hk hi dX12_lays_32 ?_
  obtain ⟨S26, hS26⟩ : ∃ y : Hp, y = sI S24 0 b25 ((v3 - v3 / (8 : Int32) * (8 : Int32))).toNatClampNeg (0 : Int32) := ⟨_, rfl⟩
  have hw := hw S26 hS26
  rw [← hS26]
  clear hS26
  obtain ⟨e27, he27⟩ : ∃ y : Int32, y = (v3 + 1) := ⟨_, rfl⟩
  have hw := hw e27 he27
  refine G_iinc (pc := 33) C [(3, .int (e27)), (0, .ref (v0)), (1, .int (v1)), (2, .int (v2))] 3 (v := e27) dX12_lays_33 rfl (by rw [he27]; rfl) (by decide) rfl ?_
  clear he27
  refine G_goto (pc := 36) C 2 dX12_lays_36 (by decide) ?_
  exact G_sub [1, 2, 3, 0] rfl (hK2 _ _ hw)
set_option maxHeartbeats 4000000 in
set_option maxRecDepth 100000 in
theorem gb_X12_lays_2 (C : Cx p s m args meth c z cX12_lays 8 RX12 none "lays") {K2 : Int32 → Hp → Prop} {Q : Hp → Prop} {v0 : Nat} {v1 : Int32} {v2 : Int32} {v3 : Int32} {S : Hp}  (hK2 : ∀ (w3 : Int32) (S2 : Hp), K2 w3 S2 → Go p l e { frames := 2, cells := 0, slots := 0, locals := 47 } s m args below meth c z 8 (MQ below (Qx z (wV Q)) args s 0 0 (own z)) (0) (0) 2 [(0, .ref (v0)), (1, .int (v1)), (2, .int (v2)), (3, .int (w3))] [] (S2)) (hw : wb_X12_lays_2  K2 Q v0 v1 v2 v3 S) : Go p l e { frames := 2, cells := 0, slots := 0, locals := 47 } s m args below meth c z 8 (MQ below (Qx z (wV Q)) args s 0 0 (own z)) (0) (0) 2 [(0, .ref (v0)), (1, .int (v1)), (2, .int (v2)), (3, .int (v3))] [] (S) := by
  refine G_iload_n (pc := 2) C 3 dX12_lays_2 rfl rfl ?_
  refine G_bipush (pc := 3) C (v := 9) dX12_lays_3 (by decide) ?_
  refine G_icmp_ge (pc := 5) C 39 dX12_lays_5 (by decide) (fun hc => ?_) (fun hc => ?_)
  · have hw := hw.1 hc
    refine G_iconst (pc := 39) C (v := 0) dX12_lays_39 (by decide) ?_
    refine G_istore_n (pc := 40) C [(3, .int ((0 : Int32))), (0, .ref (v0)), (1, .int (v1)), (2, .int (v2))] dX12_lays_40 rfl (by decide) rfl ?_
    exact G_sub [1, 2, 3, 0] rfl (g_X12_lays_41 C  hw)
  · have hw := hw.2 hc
    refine G_aload_n (pc := 8) C 0 dX12_lays_8 rfl rfl ?_
    obtain ⟨hk, hw⟩ := hw
    refine gf_RX12_25 (pc := 9) C dX12_lays_9 hk ?_
    refine G_iload_n (pc := 12) C 3 dX12_lays_12 rfl rfl ?_
    refine G_iload_n (pc := 13) C 3 dX12_lays_13 rfl rfl ?_
    refine G_if_ne (pc := 14) C 21 dX12_lays_14 (by decide) (fun hc => ?_) (fun hc => ?_)
    · have hw := hw.1 hc
      refine G_iconst (pc := 21) C (v := 0) dX12_lays_21 (by decide) ?_
      exact G_sub [0, 1, 2, 3] rfl (g_X12_lays_22 C hK2 hw)
    · have hw := hw.2 hc
      refine G_iconst (pc := 17) C (v := 1) dX12_lays_17 (by decide) ?_
      refine G_goto (pc := 18) C 22 dX12_lays_18 (by decide) ?_
      exact G_sub [0, 1, 2, 3] rfl (g_X12_lays_22 C hK2 hw)
set_option maxHeartbeats 4000000 in
set_option maxRecDepth 100000 in
theorem g_X12_lays_2 (C : Cx p s m args meth c z cX12_lays 8 RX12 none "lays")  {Q : Hp → Prop} {v0 : Nat} {v1 : Int32} {v2 : Int32} {v3 : Int32} {S : Hp}   (hw : wp_X12_lays_2  Q v0 v1 v2 v3 S) : Go p l e { frames := 2, cells := 0, slots := 0, locals := 47 } s m args below meth c z 8 (MQ below (Qx z (wV Q)) args s 0 0 (own z)) (0) (0) 2 [(0, .ref (v0)), (1, .int (v1)), (2, .int (v2)), (3, .int (v3))] [] (S) :=
  Lp_go (G := fun y : Int32 × Hp => Go p l e { frames := 2, cells := 0, slots := 0, locals := 47 } s m args below meth c z 8 (MQ below (Qx z (wV Q)) args s 0 0 (own z)) (0) (0) 2 [(0, .ref (v0)), (1, .int (v1)), (2, .int (v2)), (3, .int (y.1))] [] (y.2)) (fun K y hK hB => gb_X12_lays_2 C  (fun w0 w1 h => hK (w0, w1) h) hB) hw
set_option maxHeartbeats 4000000 in
set_option maxRecDepth 100000 in
theorem c_X12_lays (l : Launch) (z : Zt) (a0 : Nat) (x1 : Int32) (x2 : Int32) (S : Hp) (Q : Hp → Prop) (hw : wp_X12_lays a0 x1 x2 S Q) : Ct l z yX12_lays cX12_lays 8 none 2 47 0 0 [.ref (a0), .int (x1), .int (x2)] S (wV Q) := by
  refine Ct_of (by decide) (Nat.le_of_ble_eq_true rfl) ?_
  intro p e s m args below meth c C
  have C : Cx p s m args meth c z cX12_lays 8 RX12 none "lays" := C
  refine G_sub (lv' := [(0, .ref (a0)), (1, .int (x1)), (2, .int (x2))]) [0, 1, 2] rfl ?_
  refine G_iconst (pc := 0) C (v := 0) dX12_lays_0 (by decide) ?_
  refine G_istore_n (pc := 1) C [(3, .int ((0 : Int32))), (0, .ref (a0)), (1, .int (x1)), (2, .int (x2))] dX12_lays_1 rfl (by decide) rfl ?_
  exact G_sub [1, 2, 3, 0] rfl (g_X12_lays_2 C  hw)
/-! FirstPartsModel.on(II)I -/
abbrev wp_X12_on_76 (K5 : Int32 → Int32 → Prop) (Q : Int32 → Prop) (v0 : Nat) (v1 : Int32) (v2 : Int32) (v4 : Int32) (s0 : Int32) (s1 : Int32) (S : Hp) : Prop :=
  ∀ e1 : Int32, e1 = (s1 ||| s0) → ∀ e2 : Int32, e2 = (v4 + 1) → K5 (e1) (e2)
abbrev wp_X12_on_60 (K5 : Int32 → Int32 → Prop) (Q : Int32 → Prop) (v0 : Nat) (v1 : Int32) (v2 : Int32) (v3 : Int32) (v4 : Int32) (s0 : Int32) (S : Hp) : Prop :=
  ((s0 = 0 → wp_X12_on_76 K5 Q (v0) (v1) (v2) (v4) ((0 : Int32)) (v3) (S)) ∧ (¬ s0 = 0 → wp_X12_on_76 K5 Q (v0) (v1) (v2) (v4) (((1 : Int32) <<< (v4 &&& 31))) (v3) (S)))
abbrev wp_X12_on_59 (K5 : Int32 → Int32 → Prop) (Q : Int32 → Prop) (v0 : Nat) (v1 : Int32) (v2 : Int32) (v3 : Int32) (v4 : Int32) (S : Hp) : Prop :=
  wp_X12_on_60 K5 Q (v0) (v1) (v2) (v3) (v4) ((0 : Int32)) (S)
abbrev wb_X12_on_5  (K5 : Int32 → Int32 → Prop) (Q : Int32 → Prop) (v0 : Nat) (v1 : Int32) (v2 : Int32) (v3 : Int32) (v4 : Int32) (S : Hp) : Prop :=
  (((8 : Int32) ≤ v4 → Q v3) ∧ (¬ (8 : Int32) ≤ v4 → ((((v2 >>> (v4 &&& 31)) &&& (1 : Int32)) ≠ (1 : Int32) → wp_X12_on_59 K5 Q (v0) (v1) (v2) (v3) (v4) (S)) ∧ (((v2 >>> (v4 &&& 31)) &&& (1 : Int32)) = (1 : Int32) → kd S v0 = 13 ∧ ∃ b3, (gR S 193 v0 0) = some b3 ∧ kd S b3 = 20 ∧ vp_in (((450 : Int32) + ((40 : Int32) * v4)) + v1) (ln S b3) ∧ kd S v0 = 13 ∧ ∃ b4, (gR S 204 v0 0) = some b4 ∧ kd S v0 = 13 ∧ wp_X12_at_ (v0) (b4) ((8 : Int32)) ((v4 + (1 : Int32))) S (fun e5 => (((gI S 0 b3 ((((450 : Int32) + ((40 : Int32) * v4)) + v1)).toNatClampNeg) ≠ e5 → wp_X12_on_59 K5 Q (v0) (v1) (v2) (v3) (v4) (S)) ∧ ((gI S 0 b3 ((((450 : Int32) + ((40 : Int32) * v4)) + v1)).toNatClampNeg) = e5 → wp_X12_on_60 K5 Q (v0) (v1) (v2) (v3) (v4) ((1 : Int32)) (S))))))))
abbrev wp_X12_on_5  (Q : Int32 → Prop) (v0 : Nat) (v1 : Int32) (v2 : Int32) (v3 : Int32) (v4 : Int32) (S : Hp) : Prop :=
  Lp (X := Int32 × Int32) (fun K y => wb_X12_on_5  (fun w0 w1 => K (w0, w1)) Q v0 v1 v2 y.1 y.2 S) (v3, v4)
abbrev wp_X12_on (a0 : Nat) (x1 : Int32) (x2 : Int32) (S : Hp) (Q : Int32 → Prop) : Prop :=
  wp_X12_on_5 Q (a0) (x1) (x2) ((0 : Int32)) ((0 : Int32)) (S)
set_option maxHeartbeats 4000000 in
set_option maxRecDepth 100000 in
theorem g_X12_on_76 (C : Cx p s m args meth c z cX12_on 6 RX12 (some .int) "on") {K5 : Int32 → Int32 → Prop} {Q : Int32 → Prop} {v0 : Nat} {v1 : Int32} {v2 : Int32} {v4 : Int32} {s0 : Int32} {s1 : Int32} {S : Hp}  (hK5 : ∀ (w3 : Int32) (w4 : Int32), K5 w3 w4 → Go p l e { frames := 2, cells := 0, slots := 0, locals := 47 } s m args below meth c z 6 (MQ below (Qx z (pI S Q)) args s 0 0 (own z)) (0) (0) 5 [(0, .ref (v0)), (1, .int (v1)), (2, .int (v2)), (3, .int (w3)), (4, .int (w4))] [] (S)) (hw : wp_X12_on_76 K5 Q v0 v1 v2 v4 s0 s1 S) : Go p l e { frames := 2, cells := 0, slots := 0, locals := 47 } s m args below meth c z 6 (MQ below (Qx z (pI S Q)) args s 0 0 (own z)) (0) (0) 76 [(0, .ref (v0)), (1, .int (v1)), (2, .int (v2)), (4, .int (v4))] [.int (s0), .int (s1)] (S) := by
  refine G_ior (pc := 76) C dX12_on_76 ?_
  refine G_topi (fun e1 he1 => ?_)
  have hw := hw e1 he1
  clear he1
  refine G_istore_n (pc := 77) C [(3, .int (e1)), (0, .ref (v0)), (1, .int (v1)), (2, .int (v2)), (4, .int (v4))] dX12_on_77 rfl (by decide) rfl ?_
  obtain ⟨e2, he2⟩ : ∃ y : Int32, y = (v4 + 1) := ⟨_, rfl⟩
  have hw := hw e2 he2
  refine G_iinc (pc := 78) C [(4, .int (e2)), (3, .int (e1)), (0, .ref (v0)), (1, .int (v1)), (2, .int (v2))] 4 (v := e2) dX12_on_78 rfl (by rw [he2]; rfl) (by decide) rfl ?_
  clear he2
  refine G_goto (pc := 81) C 5 dX12_on_81 (by decide) ?_
  exact G_sub [2, 3, 4, 1, 0] rfl (hK5 _ _ hw)
set_option maxHeartbeats 4000000 in
set_option maxRecDepth 100000 in
theorem g_X12_on_60 (C : Cx p s m args meth c z cX12_on 6 RX12 (some .int) "on") {K5 : Int32 → Int32 → Prop} {Q : Int32 → Prop} {v0 : Nat} {v1 : Int32} {v2 : Int32} {v3 : Int32} {v4 : Int32} {s0 : Int32} {S : Hp}  (hK5 : ∀ (w3 : Int32) (w4 : Int32), K5 w3 w4 → Go p l e { frames := 2, cells := 0, slots := 0, locals := 47 } s m args below meth c z 6 (MQ below (Qx z (pI S Q)) args s 0 0 (own z)) (0) (0) 5 [(0, .ref (v0)), (1, .int (v1)), (2, .int (v2)), (3, .int (w3)), (4, .int (w4))] [] (S)) (hw : wp_X12_on_60 K5 Q v0 v1 v2 v3 v4 s0 S) : Go p l e { frames := 2, cells := 0, slots := 0, locals := 47 } s m args below meth c z 6 (MQ below (Qx z (pI S Q)) args s 0 0 (own z)) (0) (0) 60 [(0, .ref (v0)), (1, .int (v1)), (2, .int (v2)), (3, .int (v3)), (4, .int (v4))] [.int (s0)] (S) := by
  refine G_istore (pc := 60) C [(5, .int (s0)), (0, .ref (v0)), (1, .int (v1)), (2, .int (v2)), (3, .int (v3)), (4, .int (v4))] dX12_on_60 (by decide) rfl ?_
  refine G_iload_n (pc := 62) C 4 dX12_on_62 rfl rfl ?_
  refine G_iload (pc := 63) C 0 dX12_on_63 rfl ?_
  refine G_if_eq (pc := 65) C 75 dX12_on_65 (by decide) (fun hc => ?_) (fun hc => ?_)
  · have hw := hw.1 hc
    refine G_iconst (pc := 75) C (v := 0) dX12_on_75 (by decide) ?_
    exact G_sub [1, 2, 3, 5] rfl (g_X12_on_76 C hK5 hw)
  · have hw := hw.2 hc
    refine G_iconst (pc := 68) C (v := 1) dX12_on_68 (by decide) ?_
    refine G_iload (pc := 69) C 5 dX12_on_69 rfl ?_
    refine G_ishl (pc := 71) C dX12_on_71 ?_
    refine G_goto (pc := 72) C 76 dX12_on_72 (by decide) ?_
    exact G_sub [1, 2, 3, 5] rfl (g_X12_on_76 C hK5 hw)
set_option maxHeartbeats 4000000 in
set_option maxRecDepth 100000 in
theorem g_X12_on_59 (C : Cx p s m args meth c z cX12_on 6 RX12 (some .int) "on") {K5 : Int32 → Int32 → Prop} {Q : Int32 → Prop} {v0 : Nat} {v1 : Int32} {v2 : Int32} {v3 : Int32} {v4 : Int32} {S : Hp}  (hK5 : ∀ (w3 : Int32) (w4 : Int32), K5 w3 w4 → Go p l e { frames := 2, cells := 0, slots := 0, locals := 47 } s m args below meth c z 6 (MQ below (Qx z (pI S Q)) args s 0 0 (own z)) (0) (0) 5 [(0, .ref (v0)), (1, .int (v1)), (2, .int (v2)), (3, .int (w3)), (4, .int (w4))] [] (S)) (hw : wp_X12_on_59 K5 Q v0 v1 v2 v3 v4 S) : Go p l e { frames := 2, cells := 0, slots := 0, locals := 47 } s m args below meth c z 6 (MQ below (Qx z (pI S Q)) args s 0 0 (own z)) (0) (0) 59 [(0, .ref (v0)), (1, .int (v1)), (2, .int (v2)), (3, .int (v3)), (4, .int (v4))] [] (S) := by
  refine G_iconst (pc := 59) C (v := 0) dX12_on_59 (by decide) ?_
  exact G_sub [0, 1, 2, 3, 4] rfl (g_X12_on_60 C hK5 hw)
set_option maxHeartbeats 4000000 in
set_option maxRecDepth 100000 in
theorem gb_X12_on_5 (C : Cx p s m args meth c z cX12_on 6 RX12 (some .int) "on") {K5 : Int32 → Int32 → Prop} {Q : Int32 → Prop} {v0 : Nat} {v1 : Int32} {v2 : Int32} {v3 : Int32} {v4 : Int32} {S : Hp}  (hK5 : ∀ (w3 : Int32) (w4 : Int32), K5 w3 w4 → Go p l e { frames := 2, cells := 0, slots := 0, locals := 47 } s m args below meth c z 6 (MQ below (Qx z (pI S Q)) args s 0 0 (own z)) (0) (0) 5 [(0, .ref (v0)), (1, .int (v1)), (2, .int (v2)), (3, .int (w3)), (4, .int (w4))] [] (S)) (hw : wb_X12_on_5  K5 Q v0 v1 v2 v3 v4 S) : Go p l e { frames := 2, cells := 0, slots := 0, locals := 47 } s m args below meth c z 6 (MQ below (Qx z (pI S Q)) args s 0 0 (own z)) (0) (0) 5 [(0, .ref (v0)), (1, .int (v1)), (2, .int (v2)), (3, .int (v3)), (4, .int (v4))] [] (S) := by
  refine G_iload (pc := 5) C 4 dX12_on_5 rfl ?_
  refine G_bipush (pc := 7) C (v := 8) dX12_on_7 (by decide) ?_
  refine G_icmp_ge (pc := 9) C 84 dX12_on_9 (by decide) (fun hc => ?_) (fun hc => ?_)
  · have hw := hw.1 hc
    refine G_iload_n (pc := 84) C 3 dX12_on_84 rfl rfl ?_
    exact G_iret (pc := 85) C rfl dX12_on_85 ⟨rfl, _, rfl, hw⟩
  · have hw := hw.2 hc
    refine G_iload_n (pc := 12) C 2 dX12_on_12 rfl rfl ?_
    refine G_iload (pc := 13) C 4 dX12_on_13 rfl ?_
    refine G_ishr (pc := 15) C dX12_on_15 ?_
    refine G_iconst (pc := 16) C (v := 1) dX12_on_16 (by decide) ?_
    refine G_iand (pc := 17) C dX12_on_17 ?_
    refine G_iconst (pc := 18) C (v := 1) dX12_on_18 (by decide) ?_
    refine G_icmp_ne (pc := 19) C 59 dX12_on_19 (by decide) (fun hc => ?_) (fun hc => ?_)
    · have hw := hw.1 hc
      exact G_sub [0, 1, 2, 3, 4] rfl (g_X12_on_59 C hK5 hw)
    · have hw := hw.2 hc
      refine G_aload_n (pc := 22) C 0 dX12_on_22 rfl rfl ?_
      obtain ⟨hk, hw⟩ := hw
      refine gf_RX12_7 (pc := 23) C dX12_on_23 hk ?_
      refine G_sipush (pc := 26) C (v := 450) dX12_on_26 (by decide) ?_
      refine G_bipush (pc := 29) C (v := 40) dX12_on_29 (by decide) ?_
      refine G_iload (pc := 31) C 4 dX12_on_31 rfl ?_
      refine G_imul (pc := 33) C dX12_on_33 ?_
      refine G_iadd (pc := 34) C dX12_on_34 ?_
      refine G_iload_n (pc := 35) C 1 dX12_on_35 rfl rfl ?_
      refine G_iadd (pc := 36) C dX12_on_36 ?_
      obtain ⟨b3, hq, hw⟩ := hw
      rw [hq]
      obtain ⟨hk, hi, hw⟩ := hw
      refine G_iald (pc := 37) C hk hi dX12_on_37 ?_
      refine G_aload_n (pc := 38) C 0 dX12_on_38 rfl rfl ?_
      refine G_aload_n (pc := 39) C 0 dX12_on_39 rfl rfl ?_
      obtain ⟨hk, hw⟩ := hw
      refine gf_RX12_22 (pc := 40) C dX12_on_40 hk ?_
      refine G_bipush (pc := 43) C (v := 8) dX12_on_43 (by decide) ?_
      refine G_iload (pc := 45) C 4 dX12_on_45 rfl ?_
      refine G_iconst (pc := 47) C (v := 1) dX12_on_47 (by decide) ?_
      refine G_iadd (pc := 48) C dX12_on_48 ?_
      obtain ⟨b4, hq, hw⟩ := hw
      rw [hq]
      obtain ⟨hk, hw⟩ := hw
      refine cl_RX12_154 (pc := 49) C (c_X12_at_ l z (v0) (b4) ((8 : Int32)) ((v4 + (1 : Int32))) S _ hw) ⟨Nat.le_of_ble_eq_true rfl, Nat.le_of_ble_eq_true rfl⟩ hk dX12_on_49 (Nat.le_of_ble_eq_true rfl) (fun v S' hp => ?_)
      clear hw
      obtain ⟨hS, e5, rfl, hw⟩ := hp
      subst S'
      refine G_icmp_ne (pc := 52) C 59 dX12_on_52 (by decide) (fun hc => ?_) (fun hc => ?_)
      · have hw := hw.1 hc
        exact G_sub [0, 1, 2, 3, 4] rfl (g_X12_on_59 C hK5 hw)
      · have hw := hw.2 hc
        refine G_iconst (pc := 55) C (v := 1) dX12_on_55 (by decide) ?_
        refine G_goto (pc := 56) C 60 dX12_on_56 (by decide) ?_
        exact G_sub [0, 1, 2, 3, 4] rfl (g_X12_on_60 C hK5 hw)
set_option maxHeartbeats 4000000 in
set_option maxRecDepth 100000 in
theorem g_X12_on_5 (C : Cx p s m args meth c z cX12_on 6 RX12 (some .int) "on")  {Q : Int32 → Prop} {v0 : Nat} {v1 : Int32} {v2 : Int32} {v3 : Int32} {v4 : Int32} {S : Hp}   (hw : wp_X12_on_5  Q v0 v1 v2 v3 v4 S) : Go p l e { frames := 2, cells := 0, slots := 0, locals := 47 } s m args below meth c z 6 (MQ below (Qx z (pI S Q)) args s 0 0 (own z)) (0) (0) 5 [(0, .ref (v0)), (1, .int (v1)), (2, .int (v2)), (3, .int (v3)), (4, .int (v4))] [] (S) :=
  Lp_go (G := fun y : Int32 × Int32 => Go p l e { frames := 2, cells := 0, slots := 0, locals := 47 } s m args below meth c z 6 (MQ below (Qx z (pI S Q)) args s 0 0 (own z)) (0) (0) 5 [(0, .ref (v0)), (1, .int (v1)), (2, .int (v2)), (3, .int (y.1)), (4, .int (y.2))] [] (S)) (fun K y hK hB => gb_X12_on_5 C  (fun w0 w1 h => hK (w0, w1) h) hB) hw
set_option maxHeartbeats 4000000 in
set_option maxRecDepth 100000 in
theorem c_X12_on (l : Launch) (z : Zt) (a0 : Nat) (x1 : Int32) (x2 : Int32) (S : Hp) (Q : Int32 → Prop) (hw : wp_X12_on a0 x1 x2 S Q) : Ct l z yX12_on cX12_on 6 (some .int) 2 47 0 0 [.ref (a0), .int (x1), .int (x2)] S (pI S Q) := by
  refine Ct_of (by decide) (Nat.le_of_ble_eq_true rfl) ?_
  intro p e s m args below meth c C
  have C : Cx p s m args meth c z cX12_on 6 RX12 (some .int) "on" := C
  refine G_sub (lv' := [(0, .ref (a0)), (1, .int (x1)), (2, .int (x2))]) [0, 1, 2] rfl ?_
  refine G_iconst (pc := 0) C (v := 0) dX12_on_0 (by decide) ?_
  refine G_istore_n (pc := 1) C [(3, .int ((0 : Int32))), (0, .ref (a0)), (1, .int (x1)), (2, .int (x2))] dX12_on_1 rfl (by decide) rfl ?_
  refine G_iconst (pc := 2) C (v := 0) dX12_on_2 (by decide) ?_
  refine G_istore (pc := 3) C [(4, .int ((0 : Int32))), (3, .int ((0 : Int32))), (0, .ref (a0)), (1, .int (x1)), (2, .int (x2))] dX12_on_3 (by decide) rfl ?_
  exact G_sub [2, 3, 4, 1, 0] rfl (g_X12_on_5 C  hw)
/-! FirstPartsModel.mends(II)Z -/
abbrev wp_X12_mends_73 (K19 : Int32 → Hp → Prop) (Q : Int32 → Hp → Prop) (v0 : Nat) (v1 : Int32) (v2 : Int32) (v3 : Int32) (v4 : Int32) (v5 : Int32) (S : Hp) : Prop :=
  ∀ e6 : Int32, e6 = (v5 + 1) → K19 (e6) (S)
abbrev wb_X12_mends_19  (K19 : Int32 → Hp → Prop) (Q : Int32 → Hp → Prop) (v0 : Nat) (v1 : Int32) (v2 : Int32) (v3 : Int32) (v4 : Int32) (v5 : Int32) (S : Hp) : Prop :=
  (((256 : Int32) ≤ v5 → Q (0 : Int32) S) ∧ (¬ (256 : Int32) ≤ v5 → (((v5 &&& (v3 ^^^ (-1 : Int32))) ≠ 0 → wp_X12_mends_73 K19 Q (v0) (v1) (v2) (v3) (v4) (v5) (S)) ∧ ((v5 &&& (v3 ^^^ (-1 : Int32))) = 0 → wp_X12_ones (v5) S (fun e7 => ((e7 ≠ v2 → wp_X12_mends_73 K19 Q (v0) (v1) (v2) (v3) (v4) (v5) (S)) ∧ (e7 = v2 → kd S v0 = 13 ∧ wp_X12_lays (v0) (v1) (v5) S (fun S10 => wp_X12_ones (v3) S10 (fun e11 => kd S10 v0 = 13 ∧ wp_X12_on (v0) (v1) (v3) S10 (fun e13 => wp_X12_ones (e13) S10 (fun e15 => ((v4 < (e11 - e15) → wp_X12_mends_73 K19 Q (v0) (v1) (v2) (v3) (v4) (v5) (S10)) ∧ (¬ v4 < (e11 - e15) → Q (1 : Int32) S10)))))))))))))
abbrev wp_X12_mends_19  (Q : Int32 → Hp → Prop) (v0 : Nat) (v1 : Int32) (v2 : Int32) (v3 : Int32) (v4 : Int32) (v5 : Int32) (S : Hp) : Prop :=
  Lp (X := Int32 × Hp) (fun K y => wb_X12_mends_19  (fun w0 w1 => K (w0, w1)) Q v0 v1 v2 v3 v4 y.1 y.2) (v5, S)
abbrev wp_X12_mends (a0 : Nat) (x1 : Int32) (x2 : Int32) (S : Hp) (Q : Int32 → Hp → Prop) : Prop :=
  kd S a0 = 13 ∧ wp_X12_holders (a0) (x1) S (fun e1 => wp_X12_ones (e1) S (fun e3 => ¬ (2 : Int32) = 0 ∧ ∀ e5 : Int32, e5 = ((e3 - x2) / (2 : Int32)) → wp_X12_mends_19 Q (a0) (x1) (x2) (e1) (e5) ((0 : Int32)) (S)))
set_option maxHeartbeats 4000000 in
set_option maxRecDepth 100000 in
theorem g_X12_mends_73 (C : Cx p s m args meth c z cX12_mends 6 RX12 (some .boolean) "mends") {K19 : Int32 → Hp → Prop} {Q : Int32 → Hp → Prop} {v0 : Nat} {v1 : Int32} {v2 : Int32} {v3 : Int32} {v4 : Int32} {v5 : Int32} {S : Hp}  (hK19 : ∀ (w5 : Int32) (S2 : Hp), K19 w5 S2 → Go p l e { frames := 3, cells := 0, slots := 0, locals := 74 } s m args below meth c z 6 (MQ below (Qx z (wI Q)) args s 0 0 (own z)) (0) (0) 19 [(0, .ref (v0)), (1, .int (v1)), (2, .int (v2)), (3, .int (v3)), (4, .int (v4)), (5, .int (w5))] [] (S2)) (hw : wp_X12_mends_73 K19 Q v0 v1 v2 v3 v4 v5 S) : Go p l e { frames := 3, cells := 0, slots := 0, locals := 74 } s m args below meth c z 6 (MQ below (Qx z (wI Q)) args s 0 0 (own z)) (0) (0) 73 [(0, .ref (v0)), (1, .int (v1)), (2, .int (v2)), (3, .int (v3)), (4, .int (v4)), (5, .int (v5))] [] (S) := by
  obtain ⟨e6, he6⟩ : ∃ y : Int32, y = (v5 + 1) := ⟨_, rfl⟩
  have hw := hw e6 he6
  refine G_iinc (pc := 73) C [(5, .int (e6)), (0, .ref (v0)), (1, .int (v1)), (2, .int (v2)), (3, .int (v3)), (4, .int (v4))] 5 (v := e6) dX12_mends_73 rfl (by rw [he6]; rfl) (by decide) rfl ?_
  clear he6
  refine G_goto (pc := 76) C 19 dX12_mends_76 (by decide) ?_
  exact G_sub [1, 2, 3, 4, 5, 0] rfl (hK19 _ _ hw)
set_option maxHeartbeats 4000000 in
set_option maxRecDepth 100000 in
theorem gb_X12_mends_19 (C : Cx p s m args meth c z cX12_mends 6 RX12 (some .boolean) "mends") {K19 : Int32 → Hp → Prop} {Q : Int32 → Hp → Prop} {v0 : Nat} {v1 : Int32} {v2 : Int32} {v3 : Int32} {v4 : Int32} {v5 : Int32} {S : Hp}  (hK19 : ∀ (w5 : Int32) (S2 : Hp), K19 w5 S2 → Go p l e { frames := 3, cells := 0, slots := 0, locals := 74 } s m args below meth c z 6 (MQ below (Qx z (wI Q)) args s 0 0 (own z)) (0) (0) 19 [(0, .ref (v0)), (1, .int (v1)), (2, .int (v2)), (3, .int (v3)), (4, .int (v4)), (5, .int (w5))] [] (S2)) (hw : wb_X12_mends_19  K19 Q v0 v1 v2 v3 v4 v5 S) : Go p l e { frames := 3, cells := 0, slots := 0, locals := 74 } s m args below meth c z 6 (MQ below (Qx z (wI Q)) args s 0 0 (own z)) (0) (0) 19 [(0, .ref (v0)), (1, .int (v1)), (2, .int (v2)), (3, .int (v3)), (4, .int (v4)), (5, .int (v5))] [] (S) := by
  refine G_iload (pc := 19) C 5 dX12_mends_19 rfl ?_
  refine G_sipush (pc := 21) C (v := 256) dX12_mends_21 (by decide) ?_
  refine G_icmp_ge (pc := 24) C 79 dX12_mends_24 (by decide) (fun hc => ?_) (fun hc => ?_)
  · have hw := hw.1 hc
    refine G_iconst (pc := 79) C (v := 0) dX12_mends_79 (by decide) ?_
    exact G_zret (pc := 80) C rfl (by decide) dX12_mends_80 ⟨_, rfl, hw⟩
  · have hw := hw.2 hc
    refine G_iload (pc := 27) C 5 dX12_mends_27 rfl ?_
    refine G_iload_n (pc := 29) C 3 dX12_mends_29 rfl rfl ?_
    refine G_iconst (pc := 30) C (v := -1) dX12_mends_30 (by decide) ?_
    refine G_ixor (pc := 31) C dX12_mends_31 ?_
    refine G_iand (pc := 32) C dX12_mends_32 ?_
    refine G_if_ne (pc := 33) C 73 dX12_mends_33 (by decide) (fun hc => ?_) (fun hc => ?_)
    · have hw := hw.1 hc
      exact G_sub [0, 1, 2, 3, 4, 5] rfl (g_X12_mends_73 C hK19 hw)
    · have hw := hw.2 hc
      refine G_iload (pc := 36) C 5 dX12_mends_36 rfl ?_
      refine cl_RX12_163 (pc := 38) C (c_X12_ones l z (v5) S _ hw) ⟨Nat.le_of_ble_eq_true rfl, Nat.le_of_ble_eq_true rfl⟩ dX12_mends_38 (Nat.le_of_ble_eq_true rfl) (fun v S' hp => ?_)
      clear hw
      obtain ⟨hS, e7, rfl, hw⟩ := hp
      subst S'
      refine G_iload_n (pc := 41) C 2 dX12_mends_41 rfl rfl ?_
      refine G_icmp_ne (pc := 42) C 73 dX12_mends_42 (by decide) (fun hc => ?_) (fun hc => ?_)
      · have hw := hw.1 hc
        exact G_sub [0, 1, 2, 3, 4, 5] rfl (g_X12_mends_73 C hK19 hw)
      · have hw := hw.2 hc
        refine G_aload_n (pc := 45) C 0 dX12_mends_45 rfl rfl ?_
        refine G_iload_n (pc := 46) C 1 dX12_mends_46 rfl rfl ?_
        refine G_iload (pc := 47) C 5 dX12_mends_47 rfl ?_
        obtain ⟨hk, hw⟩ := hw
        refine cl_RX12_166 (pc := 49) C (c_X12_lays l z (v0) (v1) (v5) S _ hw) ⟨Nat.le_of_ble_eq_true rfl, Nat.le_of_ble_eq_true rfl⟩ hk dX12_mends_49 (Nat.le_of_ble_eq_true rfl) (fun v S' hp => ?_)
        clear hw
        obtain ⟨rfl, hw⟩ := hp
        generalize S' = S10 at hw ⊢
        refine G_iload_n (pc := 52) C 3 dX12_mends_52 rfl rfl ?_
        refine cl_RX12_163 (pc := 53) C (c_X12_ones l z (v3) S10 _ hw) ⟨Nat.le_of_ble_eq_true rfl, Nat.le_of_ble_eq_true rfl⟩ dX12_mends_53 (Nat.le_of_ble_eq_true rfl) (fun v S' hp => ?_)
        clear hw
        obtain ⟨hS, e11, rfl, hw⟩ := hp
        subst S'
        refine G_aload_n (pc := 56) C 0 dX12_mends_56 rfl rfl ?_
        refine G_iload_n (pc := 57) C 1 dX12_mends_57 rfl rfl ?_
        refine G_iload_n (pc := 58) C 3 dX12_mends_58 rfl rfl ?_
        obtain ⟨hk, hw⟩ := hw
        refine cl_RX12_169 (pc := 59) C (c_X12_on l z (v0) (v1) (v3) S10 _ hw) ⟨Nat.le_of_ble_eq_true rfl, Nat.le_of_ble_eq_true rfl⟩ hk dX12_mends_59 (Nat.le_of_ble_eq_true rfl) (fun v S' hp => ?_)
        clear hw
        obtain ⟨hS, e13, rfl, hw⟩ := hp
        subst S'
        refine cl_RX12_163 (pc := 62) C (c_X12_ones l z (e13) S10 _ hw) ⟨Nat.le_of_ble_eq_true rfl, Nat.le_of_ble_eq_true rfl⟩ dX12_mends_62 (Nat.le_of_ble_eq_true rfl) (fun v S' hp => ?_)
        clear hw
        obtain ⟨hS, e15, rfl, hw⟩ := hp
        subst S'
        refine G_isub (pc := 65) C dX12_mends_65 ?_
        refine G_iload (pc := 66) C 4 dX12_mends_66 rfl ?_
        refine G_icmp_gt (pc := 68) C 73 dX12_mends_68 (by decide) (fun hc => ?_) (fun hc => ?_)
        · have hw := hw.1 hc
          exact G_sub [0, 1, 2, 3, 4, 5] rfl (g_X12_mends_73 C hK19 hw)
        · have hw := hw.2 hc
          refine G_iconst (pc := 71) C (v := 1) dX12_mends_71 (by decide) ?_
          exact G_zret (pc := 72) C rfl (by decide) dX12_mends_72 ⟨_, rfl, hw⟩
set_option maxHeartbeats 4000000 in
set_option maxRecDepth 100000 in
theorem g_X12_mends_19 (C : Cx p s m args meth c z cX12_mends 6 RX12 (some .boolean) "mends")  {Q : Int32 → Hp → Prop} {v0 : Nat} {v1 : Int32} {v2 : Int32} {v3 : Int32} {v4 : Int32} {v5 : Int32} {S : Hp}   (hw : wp_X12_mends_19  Q v0 v1 v2 v3 v4 v5 S) : Go p l e { frames := 3, cells := 0, slots := 0, locals := 74 } s m args below meth c z 6 (MQ below (Qx z (wI Q)) args s 0 0 (own z)) (0) (0) 19 [(0, .ref (v0)), (1, .int (v1)), (2, .int (v2)), (3, .int (v3)), (4, .int (v4)), (5, .int (v5))] [] (S) :=
  Lp_go (G := fun y : Int32 × Hp => Go p l e { frames := 3, cells := 0, slots := 0, locals := 74 } s m args below meth c z 6 (MQ below (Qx z (wI Q)) args s 0 0 (own z)) (0) (0) 19 [(0, .ref (v0)), (1, .int (v1)), (2, .int (v2)), (3, .int (v3)), (4, .int (v4)), (5, .int (y.1))] [] (y.2)) (fun K y hK hB => gb_X12_mends_19 C  (fun w0 w1 h => hK (w0, w1) h) hB) hw
set_option maxHeartbeats 4000000 in
set_option maxRecDepth 100000 in
theorem c_X12_mends (l : Launch) (z : Zt) (a0 : Nat) (x1 : Int32) (x2 : Int32) (S : Hp) (Q : Int32 → Hp → Prop) (hw : wp_X12_mends a0 x1 x2 S Q) : Ct l z yX12_mends cX12_mends 6 (some .boolean) 3 74 0 0 [.ref (a0), .int (x1), .int (x2)] S (wI Q) := by
  refine Ct_of (by decide) (Nat.le_of_ble_eq_true rfl) ?_
  intro p e s m args below meth c C
  have C : Cx p s m args meth c z cX12_mends 6 RX12 (some .boolean) "mends" := C
  refine G_sub (lv' := [(0, .ref (a0)), (1, .int (x1)), (2, .int (x2))]) [0, 1, 2] rfl ?_
  refine G_aload_n (pc := 0) C 0 dX12_mends_0 rfl rfl ?_
  refine G_iload_n (pc := 1) C 1 dX12_mends_1 rfl rfl ?_
  obtain ⟨hk, hw⟩ := hw
  refine cl_RX12_160 (pc := 2) C (c_X12_holders l z (a0) (x1) S _ hw) ⟨Nat.le_of_ble_eq_true rfl, Nat.le_of_ble_eq_true rfl⟩ hk dX12_mends_2 (Nat.le_of_ble_eq_true rfl) (fun v S' hp => ?_)
  clear hw
  obtain ⟨hS, e1, rfl, hw⟩ := hp
  subst S'
  refine G_istore_n (pc := 5) C [(3, .int (e1)), (0, .ref (a0)), (1, .int (x1)), (2, .int (x2))] dX12_mends_5 rfl (by decide) rfl ?_
  refine G_iload_n (pc := 6) C 0 dX12_mends_6 rfl rfl ?_
  refine cl_RX12_163 (pc := 7) C (c_X12_ones l z (e1) S _ hw) ⟨Nat.le_of_ble_eq_true rfl, Nat.le_of_ble_eq_true rfl⟩ dX12_mends_7 (Nat.le_of_ble_eq_true rfl) (fun v S' hp => ?_)
  clear hw
  obtain ⟨hS, e3, rfl, hw⟩ := hp
  subst S'
  refine G_iload_n (pc := 10) C 3 dX12_mends_10 rfl rfl ?_
  refine G_isub (pc := 11) C dX12_mends_11 ?_
  refine G_iconst (pc := 12) C (v := 2) dX12_mends_12 (by decide) ?_
  obtain ⟨h0, hw⟩ := hw
  refine G_idiv (pc := 13) C dX12_mends_13 h0 ?_
  refine G_topi (fun e5 he5 => ?_)
  have hw := hw e5 he5
  clear he5
  refine G_istore (pc := 14) C [(4, .int (e5)), (3, .int (e1)), (0, .ref (a0)), (1, .int (x1)), (2, .int (x2))] dX12_mends_14 (by decide) rfl ?_
  refine G_iconst (pc := 16) C (v := 0) dX12_mends_16 (by decide) ?_
  refine G_istore (pc := 17) C [(5, .int ((0 : Int32))), (4, .int (e5)), (3, .int (e1)), (0, .ref (a0)), (1, .int (x1)), (2, .int (x2))] dX12_mends_17 (by decide) rfl ?_
  exact G_sub [3, 4, 5, 2, 1, 0] rfl (g_X12_mends_19 C  hw)
/-! FirstPartsModel.fewest(I)I -/
abbrev wp_X12_fewest_42 (K5 : Int32 → Int32 → Prop) (Q : Int32 → Prop) (v0 : Nat) (v1 : Int32) (v3 : Int32) (s0 : Int32) (S : Hp) : Prop :=
  ∀ e9 : Int32, e9 = (v3 + 1) → K5 (s0) (e9)
abbrev wb_X12_fewest_5  (K5 : Int32 → Int32 → Prop) (Q : Int32 → Prop) (v0 : Nat) (v1 : Int32) (v2 : Int32) (v3 : Int32) (S : Hp) : Prop :=
  kd S v0 = 13 ∧ wp_X12_packedStripes (v0) (v1) S (fun e1 => ((e1 ≤ v3 → Q v2) ∧ (¬ e1 ≤ v3 → kd S v0 = 13 ∧ wp_X12_packedFirst (v0) (v1) S (fun e3 => kd S v0 = 13 ∧ wp_X12_holders (v0) ((e3 + v3)) S (fun e5 => wp_X12_ones (e5) S (fun e7 => ((v2 ≤ e7 → wp_X12_fewest_42 K5 Q (v0) (v1) (v3) (v2) (S)) ∧ (¬ v2 ≤ e7 → wp_X12_fewest_42 K5 Q (v0) (v1) (v3) (e7) (S)))))))))
abbrev wp_X12_fewest_5  (Q : Int32 → Prop) (v0 : Nat) (v1 : Int32) (v2 : Int32) (v3 : Int32) (S : Hp) : Prop :=
  Lp (X := Int32 × Int32) (fun K y => wb_X12_fewest_5  (fun w0 w1 => K (w0, w1)) Q v0 v1 y.1 y.2 S) (v2, v3)
abbrev wp_X12_fewest (a0 : Nat) (x1 : Int32) (S : Hp) (Q : Int32 → Prop) : Prop :=
  wp_X12_fewest_5 Q (a0) (x1) ((8 : Int32)) ((0 : Int32)) (S)
set_option maxHeartbeats 4000000 in
set_option maxRecDepth 100000 in
theorem g_X12_fewest_42 (C : Cx p s m args meth c z cX12_fewest 5 RX12 (some .int) "fewest") {K5 : Int32 → Int32 → Prop} {Q : Int32 → Prop} {v0 : Nat} {v1 : Int32} {v3 : Int32} {s0 : Int32} {S : Hp}  (hK5 : ∀ (w2 : Int32) (w3 : Int32), K5 w2 w3 → Go p l e { frames := 3, cells := 0, slots := 0, locals := 70 } s m args below meth c z 5 (MQ below (Qx z (pI S Q)) args s 0 0 (own z)) (0) (0) 5 [(0, .ref (v0)), (1, .int (v1)), (2, .int (w2)), (3, .int (w3))] [] (S)) (hw : wp_X12_fewest_42 K5 Q v0 v1 v3 s0 S) : Go p l e { frames := 3, cells := 0, slots := 0, locals := 70 } s m args below meth c z 5 (MQ below (Qx z (pI S Q)) args s 0 0 (own z)) (0) (0) 42 [(0, .ref (v0)), (1, .int (v1)), (3, .int (v3))] [.int (s0)] (S) := by
  refine G_istore_n (pc := 42) C [(2, .int (s0)), (0, .ref (v0)), (1, .int (v1)), (3, .int (v3))] dX12_fewest_42 rfl (by decide) rfl ?_
  obtain ⟨e9, he9⟩ : ∃ y : Int32, y = (v3 + 1) := ⟨_, rfl⟩
  have hw := hw e9 he9
  refine G_iinc (pc := 43) C [(3, .int (e9)), (2, .int (s0)), (0, .ref (v0)), (1, .int (v1))] 3 (v := e9) dX12_fewest_43 rfl (by rw [he9]; rfl) (by decide) rfl ?_
  clear he9
  refine G_goto (pc := 46) C 5 dX12_fewest_46 (by decide) ?_
  exact G_sub [2, 3, 1, 0] rfl (hK5 _ _ hw)
set_option maxHeartbeats 4000000 in
set_option maxRecDepth 100000 in
theorem gb_X12_fewest_5 (C : Cx p s m args meth c z cX12_fewest 5 RX12 (some .int) "fewest") {K5 : Int32 → Int32 → Prop} {Q : Int32 → Prop} {v0 : Nat} {v1 : Int32} {v2 : Int32} {v3 : Int32} {S : Hp}  (hK5 : ∀ (w2 : Int32) (w3 : Int32), K5 w2 w3 → Go p l e { frames := 3, cells := 0, slots := 0, locals := 70 } s m args below meth c z 5 (MQ below (Qx z (pI S Q)) args s 0 0 (own z)) (0) (0) 5 [(0, .ref (v0)), (1, .int (v1)), (2, .int (w2)), (3, .int (w3))] [] (S)) (hw : wb_X12_fewest_5  K5 Q v0 v1 v2 v3 S) : Go p l e { frames := 3, cells := 0, slots := 0, locals := 70 } s m args below meth c z 5 (MQ below (Qx z (pI S Q)) args s 0 0 (own z)) (0) (0) 5 [(0, .ref (v0)), (1, .int (v1)), (2, .int (v2)), (3, .int (v3))] [] (S) := by
  refine G_iload_n (pc := 5) C 3 dX12_fewest_5 rfl rfl ?_
  refine G_aload_n (pc := 6) C 0 dX12_fewest_6 rfl rfl ?_
  refine G_iload_n (pc := 7) C 1 dX12_fewest_7 rfl rfl ?_
  obtain ⟨hk, hw⟩ := hw
  refine cl_RX12_172 (pc := 8) C (c_X12_packedStripes l z (v0) (v1) S _ hw) ⟨Nat.le_of_ble_eq_true rfl, Nat.le_of_ble_eq_true rfl⟩ hk dX12_fewest_8 (Nat.le_of_ble_eq_true rfl) (fun v S' hp => ?_)
  clear hw
  obtain ⟨hS, e1, rfl, hw⟩ := hp
  subst S'
  refine G_icmp_ge (pc := 11) C 49 dX12_fewest_11 (by decide) (fun hc => ?_) (fun hc => ?_)
  · have hw := hw.1 hc
    refine G_iload_n (pc := 49) C 2 dX12_fewest_49 rfl rfl ?_
    exact G_iret (pc := 50) C rfl dX12_fewest_50 ⟨rfl, _, rfl, hw⟩
  · have hw := hw.2 hc
    refine G_aload_n (pc := 14) C 0 dX12_fewest_14 rfl rfl ?_
    refine G_aload_n (pc := 15) C 0 dX12_fewest_15 rfl rfl ?_
    refine G_iload_n (pc := 16) C 1 dX12_fewest_16 rfl rfl ?_
    obtain ⟨hk, hw⟩ := hw
    refine cl_RX12_175 (pc := 17) C (c_X12_packedFirst l z (v0) (v1) S _ hw) ⟨Nat.le_of_ble_eq_true rfl, Nat.le_of_ble_eq_true rfl⟩ hk dX12_fewest_17 (Nat.le_of_ble_eq_true rfl) (fun v S' hp => ?_)
    clear hw
    obtain ⟨hS, e3, rfl, hw⟩ := hp
    subst S'
    refine G_iload_n (pc := 20) C 3 dX12_fewest_20 rfl rfl ?_
    refine G_iadd (pc := 21) C dX12_fewest_21 ?_
    obtain ⟨hk, hw⟩ := hw
    refine cl_RX12_160 (pc := 22) C (c_X12_holders l z (v0) ((e3 + v3)) S _ hw) ⟨Nat.le_of_ble_eq_true rfl, Nat.le_of_ble_eq_true rfl⟩ hk dX12_fewest_22 (Nat.le_of_ble_eq_true rfl) (fun v S' hp => ?_)
    clear hw
    obtain ⟨hS, e5, rfl, hw⟩ := hp
    subst S'
    refine cl_RX12_163 (pc := 25) C (c_X12_ones l z (e5) S _ hw) ⟨Nat.le_of_ble_eq_true rfl, Nat.le_of_ble_eq_true rfl⟩ dX12_fewest_25 (Nat.le_of_ble_eq_true rfl) (fun v S' hp => ?_)
    clear hw
    obtain ⟨hS, e7, rfl, hw⟩ := hp
    subst S'
    refine G_istore (pc := 28) C [(4, .int (e7)), (0, .ref (v0)), (1, .int (v1)), (2, .int (v2)), (3, .int (v3))] dX12_fewest_28 (by decide) rfl ?_
    refine G_iload (pc := 30) C 0 dX12_fewest_30 rfl ?_
    refine G_iload_n (pc := 32) C 3 dX12_fewest_32 rfl rfl ?_
    refine G_icmp_ge (pc := 33) C 41 dX12_fewest_33 (by decide) (fun hc => ?_) (fun hc => ?_)
    · have hw := hw.1 hc
      refine G_iload_n (pc := 41) C 3 dX12_fewest_41 rfl rfl ?_
      exact G_sub [1, 2, 4] rfl (g_X12_fewest_42 C hK5 hw)
    · have hw := hw.2 hc
      refine G_iload (pc := 36) C 0 dX12_fewest_36 rfl ?_
      refine G_goto (pc := 38) C 42 dX12_fewest_38 (by decide) ?_
      exact G_sub [1, 2, 4] rfl (g_X12_fewest_42 C hK5 hw)
set_option maxHeartbeats 4000000 in
set_option maxRecDepth 100000 in
theorem g_X12_fewest_5 (C : Cx p s m args meth c z cX12_fewest 5 RX12 (some .int) "fewest")  {Q : Int32 → Prop} {v0 : Nat} {v1 : Int32} {v2 : Int32} {v3 : Int32} {S : Hp}   (hw : wp_X12_fewest_5  Q v0 v1 v2 v3 S) : Go p l e { frames := 3, cells := 0, slots := 0, locals := 70 } s m args below meth c z 5 (MQ below (Qx z (pI S Q)) args s 0 0 (own z)) (0) (0) 5 [(0, .ref (v0)), (1, .int (v1)), (2, .int (v2)), (3, .int (v3))] [] (S) :=
  Lp_go (G := fun y : Int32 × Int32 => Go p l e { frames := 3, cells := 0, slots := 0, locals := 70 } s m args below meth c z 5 (MQ below (Qx z (pI S Q)) args s 0 0 (own z)) (0) (0) 5 [(0, .ref (v0)), (1, .int (v1)), (2, .int (y.1)), (3, .int (y.2))] [] (S)) (fun K y hK hB => gb_X12_fewest_5 C  (fun w0 w1 h => hK (w0, w1) h) hB) hw
set_option maxHeartbeats 4000000 in
set_option maxRecDepth 100000 in
theorem c_X12_fewest (l : Launch) (z : Zt) (a0 : Nat) (x1 : Int32) (S : Hp) (Q : Int32 → Prop) (hw : wp_X12_fewest a0 x1 S Q) : Ct l z yX12_fewest cX12_fewest 5 (some .int) 3 70 0 0 [.ref (a0), .int (x1)] S (pI S Q) := by
  refine Ct_of (by decide) (Nat.le_of_ble_eq_true rfl) ?_
  intro p e s m args below meth c C
  have C : Cx p s m args meth c z cX12_fewest 5 RX12 (some .int) "fewest" := C
  refine G_sub (lv' := [(0, .ref (a0)), (1, .int (x1))]) [0, 1] rfl ?_
  refine G_bipush (pc := 0) C (v := 8) dX12_fewest_0 (by decide) ?_
  refine G_istore_n (pc := 2) C [(2, .int ((8 : Int32))), (0, .ref (a0)), (1, .int (x1))] dX12_fewest_2 rfl (by decide) rfl ?_
  refine G_iconst (pc := 3) C (v := 0) dX12_fewest_3 (by decide) ?_
  refine G_istore_n (pc := 4) C [(3, .int ((0 : Int32))), (2, .int ((8 : Int32))), (0, .ref (a0)), (1, .int (x1))] dX12_fewest_4 rfl (by decide) rfl ?_
  exact G_sub [2, 3, 1, 0] rfl (g_X12_fewest_5 C  hw)
/-! FirstPartsModel.isDoubted(I)Z -/
abbrev wp_X12_isDoubted_68 (K4 : Int32 → Int32 → Hp → Prop) (Q : Int32 → Hp → Prop) (v0 : Nat) (v1 : Int32) (v3 : Int32) (s0 : Int32) (S : Hp) : Prop :=
  ∀ e14 : Int32, e14 = (v3 + 1) → K4 (s0) (e14) (S)
abbrev wp_X12_isDoubted_63 (K4 : Int32 → Int32 → Hp → Prop) (Q : Int32 → Hp → Prop) (v0 : Nat) (v1 : Int32) (v3 : Int32) (S : Hp) : Prop :=
  wp_X12_isDoubted_68 K4 Q (v0) (v1) (v3) ((1 : Int32)) (S)
abbrev wb_X12_isDoubted_4  (K4 : Int32 → Int32 → Hp → Prop) (Q : Int32 → Hp → Prop) (v0 : Nat) (v1 : Int32) (v2 : Int32) (v3 : Int32) (S : Hp) : Prop :=
  kd S v0 = 13 ∧ wp_X12_packedStripes (v0) (v1) S (fun e1 => ((e1 ≤ v3 → (v2 = 0 ∨ v2 = 1) ∧ Q v2 S) ∧ (¬ e1 ≤ v3 → kd S v0 = 13 ∧ wp_X12_packedFirst (v0) (v1) S (fun e3 => ∀ e5 : Int32, e5 = (e3 + v3) → kd S v0 = 13 ∧ wp_X12_holders (v0) (e5) S (fun e6 => kd S v0 = 13 ∧ wp_X12_packedNeed (v0) (v1) S (fun e8 => wp_X12_firsts (e6) (e8) S (fun e10 => kd S v0 = 13 ∧ wp_X12_lays (v0) (e5) (e10) S (fun S13 => ((v2 ≠ 0 → wp_X12_isDoubted_63 K4 Q (v0) (v1) (v3) (S13)) ∧ (v2 = 0 → kd S13 v0 = 13 ∧ wp_X12_on (v0) (e5) (e6) S13 (fun e15 => ((e15 = e6 → wp_X12_isDoubted_68 K4 Q (v0) (v1) (v3) ((0 : Int32)) (S13)) ∧ (¬ e15 = e6 → wp_X12_isDoubted_63 K4 Q (v0) (v1) (v3) (S13))))))))))))))
abbrev wp_X12_isDoubted_4  (Q : Int32 → Hp → Prop) (v0 : Nat) (v1 : Int32) (v2 : Int32) (v3 : Int32) (S : Hp) : Prop :=
  Lp (X := Int32 × Int32 × Hp) (fun K y => wb_X12_isDoubted_4  (fun w0 w1 w2 => K (w0, w1, w2)) Q v0 v1 y.1 y.2.1 y.2.2) (v2, v3, S)
abbrev wp_X12_isDoubted (a0 : Nat) (x1 : Int32) (S : Hp) (Q : Int32 → Hp → Prop) : Prop :=
  wp_X12_isDoubted_4 Q (a0) (x1) ((0 : Int32)) ((0 : Int32)) (S)
set_option maxHeartbeats 4000000 in
set_option maxRecDepth 100000 in
theorem g_X12_isDoubted_68 (C : Cx p s m args meth c z cX12_isDoubted 6 RX12 (some .boolean) "isDoubted") {K4 : Int32 → Int32 → Hp → Prop} {Q : Int32 → Hp → Prop} {v0 : Nat} {v1 : Int32} {v3 : Int32} {s0 : Int32} {S : Hp}  (hK4 : ∀ (w2 : Int32) (w3 : Int32) (S2 : Hp), K4 w2 w3 S2 → Go p l e { frames := 3, cells := 0, slots := 0, locals := 74 } s m args below meth c z 6 (MQ below (Qx z (wI Q)) args s 0 0 (own z)) (0) (0) 4 [(0, .ref (v0)), (1, .int (v1)), (2, .int (w2)), (3, .int (w3))] [] (S2)) (hw : wp_X12_isDoubted_68 K4 Q v0 v1 v3 s0 S) : Go p l e { frames := 3, cells := 0, slots := 0, locals := 74 } s m args below meth c z 6 (MQ below (Qx z (wI Q)) args s 0 0 (own z)) (0) (0) 68 [(0, .ref (v0)), (1, .int (v1)), (3, .int (v3))] [.int (s0)] (S) := by
  refine G_istore_n (pc := 68) C [(2, .int (s0)), (0, .ref (v0)), (1, .int (v1)), (3, .int (v3))] dX12_isDoubted_68 rfl (by decide) rfl ?_
  obtain ⟨e14, he14⟩ : ∃ y : Int32, y = (v3 + 1) := ⟨_, rfl⟩
  have hw := hw e14 he14
  refine G_iinc (pc := 69) C [(3, .int (e14)), (2, .int (s0)), (0, .ref (v0)), (1, .int (v1))] 3 (v := e14) dX12_isDoubted_69 rfl (by rw [he14]; rfl) (by decide) rfl ?_
  clear he14
  refine G_goto (pc := 72) C 4 dX12_isDoubted_72 (by decide) ?_
  exact G_sub [2, 3, 1, 0] rfl (hK4 _ _ _ hw)
set_option maxHeartbeats 4000000 in
set_option maxRecDepth 100000 in
theorem g_X12_isDoubted_63 (C : Cx p s m args meth c z cX12_isDoubted 6 RX12 (some .boolean) "isDoubted") {K4 : Int32 → Int32 → Hp → Prop} {Q : Int32 → Hp → Prop} {v0 : Nat} {v1 : Int32} {v3 : Int32} {S : Hp}  (hK4 : ∀ (w2 : Int32) (w3 : Int32) (S2 : Hp), K4 w2 w3 S2 → Go p l e { frames := 3, cells := 0, slots := 0, locals := 74 } s m args below meth c z 6 (MQ below (Qx z (wI Q)) args s 0 0 (own z)) (0) (0) 4 [(0, .ref (v0)), (1, .int (v1)), (2, .int (w2)), (3, .int (w3))] [] (S2)) (hw : wp_X12_isDoubted_63 K4 Q v0 v1 v3 S) : Go p l e { frames := 3, cells := 0, slots := 0, locals := 74 } s m args below meth c z 6 (MQ below (Qx z (wI Q)) args s 0 0 (own z)) (0) (0) 63 [(0, .ref (v0)), (1, .int (v1)), (3, .int (v3))] [] (S) := by
  refine G_iconst (pc := 63) C (v := 1) dX12_isDoubted_63 (by decide) ?_
  refine G_goto (pc := 64) C 68 dX12_isDoubted_64 (by decide) ?_
  exact G_sub [0, 1, 2] rfl (g_X12_isDoubted_68 C hK4 hw)
set_option maxHeartbeats 4000000 in
set_option maxRecDepth 100000 in
theorem gb_X12_isDoubted_4 (C : Cx p s m args meth c z cX12_isDoubted 6 RX12 (some .boolean) "isDoubted") {K4 : Int32 → Int32 → Hp → Prop} {Q : Int32 → Hp → Prop} {v0 : Nat} {v1 : Int32} {v2 : Int32} {v3 : Int32} {S : Hp}  (hK4 : ∀ (w2 : Int32) (w3 : Int32) (S2 : Hp), K4 w2 w3 S2 → Go p l e { frames := 3, cells := 0, slots := 0, locals := 74 } s m args below meth c z 6 (MQ below (Qx z (wI Q)) args s 0 0 (own z)) (0) (0) 4 [(0, .ref (v0)), (1, .int (v1)), (2, .int (w2)), (3, .int (w3))] [] (S2)) (hw : wb_X12_isDoubted_4  K4 Q v0 v1 v2 v3 S) : Go p l e { frames := 3, cells := 0, slots := 0, locals := 74 } s m args below meth c z 6 (MQ below (Qx z (wI Q)) args s 0 0 (own z)) (0) (0) 4 [(0, .ref (v0)), (1, .int (v1)), (2, .int (v2)), (3, .int (v3))] [] (S) := by
  refine G_iload_n (pc := 4) C 3 dX12_isDoubted_4 rfl rfl ?_
  refine G_aload_n (pc := 5) C 0 dX12_isDoubted_5 rfl rfl ?_
  refine G_iload_n (pc := 6) C 1 dX12_isDoubted_6 rfl rfl ?_
  obtain ⟨hk, hw⟩ := hw
  refine cl_RX12_172 (pc := 7) C (c_X12_packedStripes l z (v0) (v1) S _ hw) ⟨Nat.le_of_ble_eq_true rfl, Nat.le_of_ble_eq_true rfl⟩ hk dX12_isDoubted_7 (Nat.le_of_ble_eq_true rfl) (fun v S' hp => ?_)
  clear hw
  obtain ⟨hS, e1, rfl, hw⟩ := hp
  subst S'
  refine G_icmp_ge (pc := 10) C 75 dX12_isDoubted_10 (by decide) (fun hc => ?_) (fun hc => ?_)
  · have hw := hw.1 hc
    refine G_iload_n (pc := 75) C 2 dX12_isDoubted_75 rfl rfl ?_
    obtain ⟨hb, hw⟩ := hw
    exact G_zret (pc := 76) C rfl hb dX12_isDoubted_76 ⟨_, rfl, hw⟩
  · have hw := hw.2 hc
    refine G_aload_n (pc := 13) C 0 dX12_isDoubted_13 rfl rfl ?_
    refine G_iload_n (pc := 14) C 1 dX12_isDoubted_14 rfl rfl ?_
    obtain ⟨hk, hw⟩ := hw
    refine cl_RX12_175 (pc := 15) C (c_X12_packedFirst l z (v0) (v1) S _ hw) ⟨Nat.le_of_ble_eq_true rfl, Nat.le_of_ble_eq_true rfl⟩ hk dX12_isDoubted_15 (Nat.le_of_ble_eq_true rfl) (fun v S' hp => ?_)
    clear hw
    obtain ⟨hS, e3, rfl, hw⟩ := hp
    subst S'
    refine G_iload_n (pc := 18) C 3 dX12_isDoubted_18 rfl rfl ?_
    refine G_iadd (pc := 19) C dX12_isDoubted_19 ?_
    refine G_topi (fun e5 he5 => ?_)
    have hw := hw e5 he5
    clear he5
    refine G_istore (pc := 20) C [(4, .int (e5)), (0, .ref (v0)), (1, .int (v1)), (2, .int (v2)), (3, .int (v3))] dX12_isDoubted_20 (by decide) rfl ?_
    refine G_aload_n (pc := 22) C 1 dX12_isDoubted_22 rfl rfl ?_
    refine G_iload (pc := 23) C 0 dX12_isDoubted_23 rfl ?_
    obtain ⟨hk, hw⟩ := hw
    refine cl_RX12_160 (pc := 25) C (c_X12_holders l z (v0) (e5) S _ hw) ⟨Nat.le_of_ble_eq_true rfl, Nat.le_of_ble_eq_true rfl⟩ hk dX12_isDoubted_25 (Nat.le_of_ble_eq_true rfl) (fun v S' hp => ?_)
    clear hw
    obtain ⟨hS, e6, rfl, hw⟩ := hp
    subst S'
    refine G_istore (pc := 28) C [(5, .int (e6)), (4, .int (e5)), (0, .ref (v0)), (1, .int (v1)), (2, .int (v2)), (3, .int (v3))] dX12_isDoubted_28 (by decide) rfl ?_
    refine G_aload_n (pc := 30) C 2 dX12_isDoubted_30 rfl rfl ?_
    refine G_iload (pc := 31) C 1 dX12_isDoubted_31 rfl ?_
    refine G_iload (pc := 33) C 0 dX12_isDoubted_33 rfl ?_
    refine G_aload_n (pc := 35) C 2 dX12_isDoubted_35 rfl rfl ?_
    refine G_iload_n (pc := 36) C 3 dX12_isDoubted_36 rfl rfl ?_
    obtain ⟨hk, hw⟩ := hw
    refine cl_RX12_151 (pc := 37) C (c_X12_packedNeed l z (v0) (v1) S _ hw) ⟨Nat.le_of_ble_eq_true rfl, Nat.le_of_ble_eq_true rfl⟩ hk dX12_isDoubted_37 (Nat.le_of_ble_eq_true rfl) (fun v S' hp => ?_)
    clear hw
    obtain ⟨hS, e8, rfl, hw⟩ := hp
    subst S'
    refine cl_RX12_178 (pc := 40) C (c_X12_firsts l z (e6) (e8) S _ hw) ⟨Nat.le_of_ble_eq_true rfl, Nat.le_of_ble_eq_true rfl⟩ dX12_isDoubted_40 (Nat.le_of_ble_eq_true rfl) (fun v S' hp => ?_)
    clear hw
    obtain ⟨hS, e10, rfl, hw⟩ := hp
    subst S'
    obtain ⟨hk, hw⟩ := hw
    refine cl_RX12_166 (pc := 43) C (c_X12_lays l z (v0) (e5) (e10) S _ hw) ⟨Nat.le_of_ble_eq_true rfl, Nat.le_of_ble_eq_true rfl⟩ hk dX12_isDoubted_43 (Nat.le_of_ble_eq_true rfl) (fun v S' hp => ?_)
    clear hw
    obtain ⟨rfl, hw⟩ := hp
    generalize S' = S13 at hw ⊢
    refine G_iload_n (pc := 46) C 4 dX12_isDoubted_46 rfl rfl ?_
    refine G_if_ne (pc := 47) C 63 dX12_isDoubted_47 (by decide) (fun hc => ?_) (fun hc => ?_)
    · have hw := hw.1 hc
      exact G_sub [2, 3, 5] rfl (g_X12_isDoubted_63 C hK4 hw)
    · have hw := hw.2 hc
      refine G_aload_n (pc := 50) C 2 dX12_isDoubted_50 rfl rfl ?_
      refine G_iload (pc := 51) C 1 dX12_isDoubted_51 rfl ?_
      refine G_iload (pc := 53) C 0 dX12_isDoubted_53 rfl ?_
      obtain ⟨hk, hw⟩ := hw
      refine cl_RX12_169 (pc := 55) C (c_X12_on l z (v0) (e5) (e6) S13 _ hw) ⟨Nat.le_of_ble_eq_true rfl, Nat.le_of_ble_eq_true rfl⟩ hk dX12_isDoubted_55 (Nat.le_of_ble_eq_true rfl) (fun v S' hp => ?_)
      clear hw
      obtain ⟨hS, e15, rfl, hw⟩ := hp
      subst S'
      refine G_iload (pc := 58) C 0 dX12_isDoubted_58 rfl ?_
      refine G_icmp_eq (pc := 60) C 67 dX12_isDoubted_60 (by decide) (fun hc => ?_) (fun hc => ?_)
      · have hw := hw.1 hc
        refine G_iconst (pc := 67) C (v := 0) dX12_isDoubted_67 (by decide) ?_
        exact G_sub [2, 3, 5] rfl (g_X12_isDoubted_68 C hK4 hw)
      · have hw := hw.2 hc
        exact G_sub [2, 3, 5] rfl (g_X12_isDoubted_63 C hK4 hw)
set_option maxHeartbeats 4000000 in
set_option maxRecDepth 100000 in
theorem g_X12_isDoubted_4 (C : Cx p s m args meth c z cX12_isDoubted 6 RX12 (some .boolean) "isDoubted")  {Q : Int32 → Hp → Prop} {v0 : Nat} {v1 : Int32} {v2 : Int32} {v3 : Int32} {S : Hp}   (hw : wp_X12_isDoubted_4  Q v0 v1 v2 v3 S) : Go p l e { frames := 3, cells := 0, slots := 0, locals := 74 } s m args below meth c z 6 (MQ below (Qx z (wI Q)) args s 0 0 (own z)) (0) (0) 4 [(0, .ref (v0)), (1, .int (v1)), (2, .int (v2)), (3, .int (v3))] [] (S) :=
  Lp_go (G := fun y : Int32 × Int32 × Hp => Go p l e { frames := 3, cells := 0, slots := 0, locals := 74 } s m args below meth c z 6 (MQ below (Qx z (wI Q)) args s 0 0 (own z)) (0) (0) 4 [(0, .ref (v0)), (1, .int (v1)), (2, .int (y.1)), (3, .int (y.2.1))] [] (y.2.2)) (fun K y hK hB => gb_X12_isDoubted_4 C  (fun w0 w1 w2 h => hK (w0, w1, w2) h) hB) hw
set_option maxHeartbeats 4000000 in
set_option maxRecDepth 100000 in
theorem c_X12_isDoubted (l : Launch) (z : Zt) (a0 : Nat) (x1 : Int32) (S : Hp) (Q : Int32 → Hp → Prop) (hw : wp_X12_isDoubted a0 x1 S Q) : Ct l z yX12_isDoubted cX12_isDoubted 6 (some .boolean) 3 74 0 0 [.ref (a0), .int (x1)] S (wI Q) := by
  refine Ct_of (by decide) (Nat.le_of_ble_eq_true rfl) ?_
  intro p e s m args below meth c C
  have C : Cx p s m args meth c z cX12_isDoubted 6 RX12 (some .boolean) "isDoubted" := C
  refine G_sub (lv' := [(0, .ref (a0)), (1, .int (x1))]) [0, 1] rfl ?_
  refine G_iconst (pc := 0) C (v := 0) dX12_isDoubted_0 (by decide) ?_
  refine G_istore_n (pc := 1) C [(2, .int ((0 : Int32))), (0, .ref (a0)), (1, .int (x1))] dX12_isDoubted_1 rfl (by decide) rfl ?_
  refine G_iconst (pc := 2) C (v := 0) dX12_isDoubted_2 (by decide) ?_
  refine G_istore_n (pc := 3) C [(3, .int ((0 : Int32))), (2, .int ((0 : Int32))), (0, .ref (a0)), (1, .int (x1))] dX12_isDoubted_3 rfl (by decide) rfl ?_
  exact G_sub [2, 3, 1, 0] rfl (g_X12_isDoubted_4 C  hw)
/-! FirstPartsModel.stateOf(I)I -/
abbrev wp_X12_stateOf_30  (Q : Int32 → Hp → Prop) (s0 : Int32) (S : Hp) : Prop :=
  Q s0 S
abbrev wp_X12_stateOf (a0 : Nat) (x1 : Int32) (S : Hp) (Q : Int32 → Hp → Prop) : Prop :=
  kd S a0 = 13 ∧ wp_X12_fewest (a0) (x1) S (fun e1 => kd S a0 = 13 ∧ wp_X12_packedNeed (a0) (x1) S (fun e3 => ((e3 ≤ e1 → kd S a0 = 13 ∧ wp_X12_isDoubted (a0) (x1) S (fun e5 S6 => ((e5 = 0 → wp_X12_stateOf_30 Q ((1 : Int32)) (S6)) ∧ (¬ e5 = 0 → wp_X12_stateOf_30 Q ((2 : Int32)) (S6))))) ∧ (¬ e3 ≤ e1 → wp_X12_stateOf_30 Q ((0 : Int32)) (S)))))
set_option maxHeartbeats 4000000 in
set_option maxRecDepth 100000 in
theorem g_X12_stateOf_30 (C : Cx p s m args meth c z cX12_stateOf 2 RX12 (some .int) "stateOf")  {Q : Int32 → Hp → Prop} {s0 : Int32} {S : Hp}   (hw : wp_X12_stateOf_30  Q s0 S) : Go p l e { frames := 4, cells := 0, slots := 0, locals := 99 } s m args below meth c z 2 (MQ below (Qx z (wI Q)) args s 0 0 (own z)) (0) (0) 30 [] [.int (s0)] (S) := by
  exact G_iret (pc := 30) C rfl dX12_stateOf_30 ⟨_, rfl, hw⟩
set_option maxHeartbeats 4000000 in
set_option maxRecDepth 100000 in
theorem c_X12_stateOf (l : Launch) (z : Zt) (a0 : Nat) (x1 : Int32) (S : Hp) (Q : Int32 → Hp → Prop) (hw : wp_X12_stateOf a0 x1 S Q) : Ct l z yX12_stateOf cX12_stateOf 2 (some .int) 4 99 0 0 [.ref (a0), .int (x1)] S (wI Q) := by
  refine Ct_of (by decide) (Nat.le_of_ble_eq_true rfl) ?_
  intro p e s m args below meth c C
  have C : Cx p s m args meth c z cX12_stateOf 2 RX12 (some .int) "stateOf" := C
  refine G_sub (lv' := [(0, .ref (a0)), (1, .int (x1))]) [0, 1] rfl ?_
  refine G_aload_n (pc := 0) C 0 dX12_stateOf_0 rfl rfl ?_
  refine G_iload_n (pc := 1) C 1 dX12_stateOf_1 rfl rfl ?_
  obtain ⟨hk, hw⟩ := hw
  refine cl_RX12_181 (pc := 2) C (c_X12_fewest l z (a0) (x1) S _ hw) ⟨Nat.le_of_ble_eq_true rfl, Nat.le_of_ble_eq_true rfl⟩ hk dX12_stateOf_2 (Nat.le_of_ble_eq_true rfl) (fun v S' hp => ?_)
  clear hw
  obtain ⟨hS, e1, rfl, hw⟩ := hp
  subst S'
  refine G_aload_n (pc := 5) C 0 dX12_stateOf_5 rfl rfl ?_
  refine G_iload_n (pc := 6) C 1 dX12_stateOf_6 rfl rfl ?_
  obtain ⟨hk, hw⟩ := hw
  refine cl_RX12_151 (pc := 7) C (c_X12_packedNeed l z (a0) (x1) S _ hw) ⟨Nat.le_of_ble_eq_true rfl, Nat.le_of_ble_eq_true rfl⟩ hk dX12_stateOf_7 (Nat.le_of_ble_eq_true rfl) (fun v S' hp => ?_)
  clear hw
  obtain ⟨hS, e3, rfl, hw⟩ := hp
  subst S'
  refine G_icmp_ge (pc := 10) C 17 dX12_stateOf_10 (by decide) (fun hc => ?_) (fun hc => ?_)
  · have hw := hw.1 hc
    refine G_aload_n (pc := 17) C 0 dX12_stateOf_17 rfl rfl ?_
    refine G_iload_n (pc := 18) C 1 dX12_stateOf_18 rfl rfl ?_
    obtain ⟨hk, hw⟩ := hw
    refine cl_RX12_184 (pc := 19) C (c_X12_isDoubted l z (a0) (x1) S _ hw) ⟨Nat.le_of_ble_eq_true rfl, Nat.le_of_ble_eq_true rfl⟩ hk dX12_stateOf_19 (Nat.le_of_ble_eq_true rfl) (fun v S' hp => ?_)
    clear hw
    obtain ⟨e5, rfl, hw⟩ := hp
    generalize S' = S6 at hw ⊢
    refine G_if_eq (pc := 22) C 29 dX12_stateOf_22 (by decide) (fun hc => ?_) (fun hc => ?_)
    · have hw := hw.1 hc
      refine G_iconst (pc := 29) C (v := 1) dX12_stateOf_29 (by decide) ?_
      exact G_sub [] rfl (g_X12_stateOf_30 C  hw)
    · have hw := hw.2 hc
      refine G_iconst (pc := 25) C (v := 2) dX12_stateOf_25 (by decide) ?_
      refine G_goto (pc := 26) C 30 dX12_stateOf_26 (by decide) ?_
      exact G_sub [] rfl (g_X12_stateOf_30 C  hw)
  · have hw := hw.2 hc
    refine G_iconst (pc := 13) C (v := 0) dX12_stateOf_13 (by decide) ?_
    refine G_goto (pc := 14) C 30 dX12_stateOf_14 (by decide) ?_
    exact G_sub [] rfl (g_X12_stateOf_30 C  hw)
/-! FirstPartsModel.opening(I)I -/
abbrev wp_X12_opening_35 (K4 : Int32 → Int32 → Prop) (Q : Int32 → Prop) (v0 : Nat) (v1 : Int32) (v3 : Int32) (s0 : Int32) (s1 : Int32) (S : Hp) : Prop :=
  ∀ e6 : Int32, e6 = (s1 + s0) → ∀ e7 : Int32, e7 = (v3 + 1) → K4 (e6) (e7)
abbrev wb_X12_opening_4  (K4 : Int32 → Int32 → Prop) (Q : Int32 → Prop) (v0 : Nat) (v1 : Int32) (v2 : Int32) (v3 : Int32) (S : Hp) : Prop :=
  kd S v0 = 13 ∧ ∃ b1, (gR S 193 v0 0) = some b1 ∧ kd S b1 = 20 ∧ vp_in (94 : Int32) (ln S b1) ∧ ((((1 : Int32) <<< ((gI S 0 b1 ((94 : Int32)).toNatClampNeg) &&& 31)) ≤ v3 → Q v2) ∧ (¬ ((1 : Int32) <<< ((gI S 0 b1 ((94 : Int32)).toNatClampNeg) &&& 31)) ≤ v3 → wp_X12_ones (v3) S (fun e2 => kd S v0 = 13 ∧ wp_X12_packedNeed (v0) (v1) S (fun e4 => ((e2 < e4 → wp_X12_opening_35 K4 Q (v0) (v1) (v3) ((0 : Int32)) (v2) (S)) ∧ (¬ e2 < e4 → wp_X12_opening_35 K4 Q (v0) (v1) (v3) ((1 : Int32)) (v2) (S)))))))
abbrev wp_X12_opening_4  (Q : Int32 → Prop) (v0 : Nat) (v1 : Int32) (v2 : Int32) (v3 : Int32) (S : Hp) : Prop :=
  Lp (X := Int32 × Int32) (fun K y => wb_X12_opening_4  (fun w0 w1 => K (w0, w1)) Q v0 v1 y.1 y.2 S) (v2, v3)
abbrev wp_X12_opening (a0 : Nat) (x1 : Int32) (S : Hp) (Q : Int32 → Prop) : Prop :=
  wp_X12_opening_4 Q (a0) (x1) ((0 : Int32)) ((0 : Int32)) (S)
set_option maxHeartbeats 4000000 in
set_option maxRecDepth 100000 in
theorem g_X12_opening_35 (C : Cx p s m args meth c z cX12_opening 4 RX12 (some .int) "opening") {K4 : Int32 → Int32 → Prop} {Q : Int32 → Prop} {v0 : Nat} {v1 : Int32} {v3 : Int32} {s0 : Int32} {s1 : Int32} {S : Hp}  (hK4 : ∀ (w2 : Int32) (w3 : Int32), K4 w2 w3 → Go p l e { frames := 1, cells := 0, slots := 0, locals := 22 } s m args below meth c z 4 (MQ below (Qx z (pI S Q)) args s 0 0 (own z)) (0) (0) 4 [(0, .ref (v0)), (1, .int (v1)), (2, .int (w2)), (3, .int (w3))] [] (S)) (hw : wp_X12_opening_35 K4 Q v0 v1 v3 s0 s1 S) : Go p l e { frames := 1, cells := 0, slots := 0, locals := 22 } s m args below meth c z 4 (MQ below (Qx z (pI S Q)) args s 0 0 (own z)) (0) (0) 35 [(0, .ref (v0)), (1, .int (v1)), (3, .int (v3))] [.int (s0), .int (s1)] (S) := by
  refine G_iadd (pc := 35) C dX12_opening_35 ?_
  refine G_topi (fun e6 he6 => ?_)
  have hw := hw e6 he6
  clear he6
  refine G_istore_n (pc := 36) C [(2, .int (e6)), (0, .ref (v0)), (1, .int (v1)), (3, .int (v3))] dX12_opening_36 rfl (by decide) rfl ?_
  obtain ⟨e7, he7⟩ : ∃ y : Int32, y = (v3 + 1) := ⟨_, rfl⟩
  have hw := hw e7 he7
  refine G_iinc (pc := 37) C [(3, .int (e7)), (2, .int (e6)), (0, .ref (v0)), (1, .int (v1))] 3 (v := e7) dX12_opening_37 rfl (by rw [he7]; rfl) (by decide) rfl ?_
  clear he7
  refine G_goto (pc := 40) C 4 dX12_opening_40 (by decide) ?_
  exact G_sub [2, 3, 1, 0] rfl (hK4 _ _ hw)
set_option maxHeartbeats 4000000 in
set_option maxRecDepth 100000 in
theorem gb_X12_opening_4 (C : Cx p s m args meth c z cX12_opening 4 RX12 (some .int) "opening") {K4 : Int32 → Int32 → Prop} {Q : Int32 → Prop} {v0 : Nat} {v1 : Int32} {v2 : Int32} {v3 : Int32} {S : Hp}  (hK4 : ∀ (w2 : Int32) (w3 : Int32), K4 w2 w3 → Go p l e { frames := 1, cells := 0, slots := 0, locals := 22 } s m args below meth c z 4 (MQ below (Qx z (pI S Q)) args s 0 0 (own z)) (0) (0) 4 [(0, .ref (v0)), (1, .int (v1)), (2, .int (w2)), (3, .int (w3))] [] (S)) (hw : wb_X12_opening_4  K4 Q v0 v1 v2 v3 S) : Go p l e { frames := 1, cells := 0, slots := 0, locals := 22 } s m args below meth c z 4 (MQ below (Qx z (pI S Q)) args s 0 0 (own z)) (0) (0) 4 [(0, .ref (v0)), (1, .int (v1)), (2, .int (v2)), (3, .int (v3))] [] (S) := by
  refine G_iload_n (pc := 4) C 3 dX12_opening_4 rfl rfl ?_
  refine G_iconst (pc := 5) C (v := 1) dX12_opening_5 (by decide) ?_
  refine G_aload_n (pc := 6) C 0 dX12_opening_6 rfl rfl ?_
  obtain ⟨hk, hw⟩ := hw
  refine gf_RX12_7 (pc := 7) C dX12_opening_7 hk ?_
  refine G_bipush (pc := 10) C (v := 94) dX12_opening_10 (by decide) ?_
  obtain ⟨b1, hq, hw⟩ := hw
  rw [hq]
  obtain ⟨hk, hi, hw⟩ := hw
  refine G_iald (pc := 12) C hk hi dX12_opening_12 ?_
  refine G_ishl (pc := 13) C dX12_opening_13 ?_
  refine G_icmp_ge (pc := 14) C 43 dX12_opening_14 (by decide) (fun hc => ?_) (fun hc => ?_)
  · have hw := hw.1 hc
    refine G_iload_n (pc := 43) C 2 dX12_opening_43 rfl rfl ?_
    exact G_iret (pc := 44) C rfl dX12_opening_44 ⟨rfl, _, rfl, hw⟩
  · have hw := hw.2 hc
    refine G_iload_n (pc := 17) C 2 dX12_opening_17 rfl rfl ?_
    refine G_iload_n (pc := 18) C 3 dX12_opening_18 rfl rfl ?_
    refine cl_RX12_163 (pc := 19) C (c_X12_ones l z (v3) S _ hw) ⟨Nat.le_of_ble_eq_true rfl, Nat.le_of_ble_eq_true rfl⟩ dX12_opening_19 (Nat.le_of_ble_eq_true rfl) (fun v S' hp => ?_)
    clear hw
    obtain ⟨hS, e2, rfl, hw⟩ := hp
    subst S'
    refine G_aload_n (pc := 22) C 0 dX12_opening_22 rfl rfl ?_
    refine G_iload_n (pc := 23) C 1 dX12_opening_23 rfl rfl ?_
    obtain ⟨hk, hw⟩ := hw
    refine cl_RX12_151 (pc := 24) C (c_X12_packedNeed l z (v0) (v1) S _ hw) ⟨Nat.le_of_ble_eq_true rfl, Nat.le_of_ble_eq_true rfl⟩ hk dX12_opening_24 (Nat.le_of_ble_eq_true rfl) (fun v S' hp => ?_)
    clear hw
    obtain ⟨hS, e4, rfl, hw⟩ := hp
    subst S'
    refine G_icmp_lt (pc := 27) C 34 dX12_opening_27 (by decide) (fun hc => ?_) (fun hc => ?_)
    · have hw := hw.1 hc
      refine G_iconst (pc := 34) C (v := 0) dX12_opening_34 (by decide) ?_
      exact G_sub [0, 1, 3] rfl (g_X12_opening_35 C hK4 hw)
    · have hw := hw.2 hc
      refine G_iconst (pc := 30) C (v := 1) dX12_opening_30 (by decide) ?_
      refine G_goto (pc := 31) C 35 dX12_opening_31 (by decide) ?_
      exact G_sub [0, 1, 3] rfl (g_X12_opening_35 C hK4 hw)
set_option maxHeartbeats 4000000 in
set_option maxRecDepth 100000 in
theorem g_X12_opening_4 (C : Cx p s m args meth c z cX12_opening 4 RX12 (some .int) "opening")  {Q : Int32 → Prop} {v0 : Nat} {v1 : Int32} {v2 : Int32} {v3 : Int32} {S : Hp}   (hw : wp_X12_opening_4  Q v0 v1 v2 v3 S) : Go p l e { frames := 1, cells := 0, slots := 0, locals := 22 } s m args below meth c z 4 (MQ below (Qx z (pI S Q)) args s 0 0 (own z)) (0) (0) 4 [(0, .ref (v0)), (1, .int (v1)), (2, .int (v2)), (3, .int (v3))] [] (S) :=
  Lp_go (G := fun y : Int32 × Int32 => Go p l e { frames := 1, cells := 0, slots := 0, locals := 22 } s m args below meth c z 4 (MQ below (Qx z (pI S Q)) args s 0 0 (own z)) (0) (0) 4 [(0, .ref (v0)), (1, .int (v1)), (2, .int (y.1)), (3, .int (y.2))] [] (S)) (fun K y hK hB => gb_X12_opening_4 C  (fun w0 w1 h => hK (w0, w1) h) hB) hw
set_option maxHeartbeats 4000000 in
set_option maxRecDepth 100000 in
theorem c_X12_opening (l : Launch) (z : Zt) (a0 : Nat) (x1 : Int32) (S : Hp) (Q : Int32 → Prop) (hw : wp_X12_opening a0 x1 S Q) : Ct l z yX12_opening cX12_opening 4 (some .int) 1 22 0 0 [.ref (a0), .int (x1)] S (pI S Q) := by
  refine Ct_of (by decide) (Nat.le_of_ble_eq_true rfl) ?_
  intro p e s m args below meth c C
  have C : Cx p s m args meth c z cX12_opening 4 RX12 (some .int) "opening" := C
  refine G_sub (lv' := [(0, .ref (a0)), (1, .int (x1))]) [0, 1] rfl ?_
  refine G_iconst (pc := 0) C (v := 0) dX12_opening_0 (by decide) ?_
  refine G_istore_n (pc := 1) C [(2, .int ((0 : Int32))), (0, .ref (a0)), (1, .int (x1))] dX12_opening_1 rfl (by decide) rfl ?_
  refine G_iconst (pc := 2) C (v := 0) dX12_opening_2 (by decide) ?_
  refine G_istore_n (pc := 3) C [(3, .int ((0 : Int32))), (2, .int ((0 : Int32))), (0, .ref (a0)), (1, .int (x1))] dX12_opening_3 rfl (by decide) rfl ?_
  exact G_sub [2, 3, 1, 0] rfl (g_X12_opening_4 C  hw)
/-! FirstPartsModel.packed(II)I -/
abbrev wp_X12_packed (a0 : Nat) (x1 : Int32) (x2 : Int32) (S : Hp) (Q : Int32 → Hp → Prop) : Prop :=
  kd S a0 = 13 ∧ wp_X12_isPacked (a0) (x1) S (fun e1 => ((e1 ≠ 0 → ((x2 = 0 → kd S a0 = 13 ∧ wp_X12_stateOf (a0) (x1) S (fun e3 S4 => Q e3 S4)) ∧ (¬ x2 = 0 → ((x2 = 1 → kd S a0 = 13 ∧ wp_X12_packedNeed (a0) (x1) S (fun e5 => Q e5 S)) ∧ (¬ x2 = 1 → ((x2 = 2 → kd S a0 = 13 ∧ ∃ b7, (gR S 193 a0 0) = some b7 ∧ kd S b7 = 20 ∧ vp_in ((96 : Int32) + ((3 : Int32) * x1)) (ln S b7) ∧ Q (gI S 0 b7 (((96 : Int32) + ((3 : Int32) * x1))).toNatClampNeg) S) ∧ (¬ x2 = 2 → ((x2 = 3 → kd S a0 = 13 ∧ wp_X12_packedFirst (a0) (x1) S (fun e8 => Q e8 S)) ∧ (¬ x2 = 3 → ((x2 = 4 → kd S a0 = 13 ∧ wp_X12_fewest (a0) (x1) S (fun e10 => Q e10 S)) ∧ (¬ x2 = 4 → ((x2 = 5 → kd S a0 = 13 ∧ wp_X12_opening (a0) (x1) S (fun e12 => Q e12 S)) ∧ (¬ x2 = 5 → Q (-3 : Int32) S))))))))))))) ∧ (e1 = 0 → Q (-2 : Int32) S)))
set_option maxHeartbeats 4000000 in
set_option maxRecDepth 100000 in
theorem c_X12_packed (l : Launch) (z : Zt) (a0 : Nat) (x1 : Int32) (x2 : Int32) (S : Hp) (Q : Int32 → Hp → Prop) (hw : wp_X12_packed a0 x1 x2 S Q) : Ct l z yX12_packed cX12_packed 3 (some .int) 5 120 0 0 [.ref (a0), .int (x1), .int (x2)] S (wI Q) := by
  refine Ct_of (by decide) (Nat.le_of_ble_eq_true rfl) ?_
  intro p e s m args below meth c C
  have C : Cx p s m args meth c z cX12_packed 3 RX12 (some .int) "packed" := C
  refine G_sub (lv' := [(0, .ref (a0)), (1, .int (x1)), (2, .int (x2))]) [0, 1, 2] rfl ?_
  refine G_aload_n (pc := 0) C 0 dX12_packed_0 rfl rfl ?_
  refine G_iload_n (pc := 1) C 1 dX12_packed_1 rfl rfl ?_
  obtain ⟨hk, hw⟩ := hw
  refine cl_RX12_187 (pc := 2) C (c_X12_isPacked l z (a0) (x1) S _ hw) ⟨Nat.le_of_ble_eq_true rfl, Nat.le_of_ble_eq_true rfl⟩ hk dX12_packed_2 (Nat.le_of_ble_eq_true rfl) (fun v S' hp => ?_)
  clear hw
  obtain ⟨hS, e1, rfl, hw⟩ := hp
  subst S'
  refine G_if_ne (pc := 5) C 11 dX12_packed_5 (by decide) (fun hc => ?_) (fun hc => ?_)
  · have hw := hw.1 hc
    refine G_iload_n (pc := 11) C 2 dX12_packed_11 rfl rfl ?_
    by_cases hc0 : x2 = 0
    · have hw := hw.1 hc0
      refine G_tableIn (pc := 12) C 52 dX12_packed_12 (by rw [hc0]; decide) (by rw [hc0]; decide) (off := 40) (by rw [hc0]; rfl) (by decide) ?_
      refine G_aload_n (pc := 52) C 0 dX12_packed_52 rfl rfl ?_
      refine G_iload_n (pc := 53) C 1 dX12_packed_53 rfl rfl ?_
      obtain ⟨hk, hw⟩ := hw
      refine cl_RX12_190 (pc := 54) C (c_X12_stateOf l z (a0) (x1) S _ hw) ⟨Nat.le_of_ble_eq_true rfl, Nat.le_of_ble_eq_true rfl⟩ hk dX12_packed_54 (Nat.le_of_ble_eq_true rfl) (fun v S' hp => ?_)
      clear hw
      obtain ⟨e3, rfl, hw⟩ := hp
      generalize S' = S4 at hw ⊢
      exact G_iret (pc := 57) C rfl dX12_packed_57 ⟨_, rfl, hw⟩
    have hw := hw.2 hc0
    by_cases hc1 : x2 = 1
    · have hw := hw.1 hc1
      refine G_tableIn (pc := 12) C 58 dX12_packed_12 (by rw [hc1]; decide) (by rw [hc1]; decide) (off := 46) (by rw [hc1]; rfl) (by decide) ?_
      refine G_aload_n (pc := 58) C 0 dX12_packed_58 rfl rfl ?_
      refine G_iload_n (pc := 59) C 1 dX12_packed_59 rfl rfl ?_
      obtain ⟨hk, hw⟩ := hw
      refine cl_RX12_151 (pc := 60) C (c_X12_packedNeed l z (a0) (x1) S _ hw) ⟨Nat.le_of_ble_eq_true rfl, Nat.le_of_ble_eq_true rfl⟩ hk dX12_packed_60 (Nat.le_of_ble_eq_true rfl) (fun v S' hp => ?_)
      clear hw
      obtain ⟨hS, e5, rfl, hw⟩ := hp
      subst S'
      exact G_iret (pc := 63) C rfl dX12_packed_63 ⟨_, rfl, hw⟩
    have hw := hw.2 hc1
    by_cases hc2 : x2 = 2
    · have hw := hw.1 hc2
      refine G_tableIn (pc := 12) C 64 dX12_packed_12 (by rw [hc2]; decide) (by rw [hc2]; decide) (off := 52) (by rw [hc2]; rfl) (by decide) ?_
      refine G_aload_n (pc := 64) C 0 dX12_packed_64 rfl rfl ?_
      obtain ⟨hk, hw⟩ := hw
      refine gf_RX12_7 (pc := 65) C dX12_packed_65 hk ?_
      refine G_bipush (pc := 68) C (v := 96) dX12_packed_68 (by decide) ?_
      refine G_iconst (pc := 70) C (v := 3) dX12_packed_70 (by decide) ?_
      refine G_iload_n (pc := 71) C 1 dX12_packed_71 rfl rfl ?_
      refine G_imul (pc := 72) C dX12_packed_72 ?_
      refine G_iadd (pc := 73) C dX12_packed_73 ?_
      obtain ⟨b7, hq, hw⟩ := hw
      rw [hq]
      obtain ⟨hk, hi, hw⟩ := hw
      refine G_iald (pc := 74) C hk hi dX12_packed_74 ?_
      exact G_iret (pc := 75) C rfl dX12_packed_75 ⟨_, rfl, hw⟩
    have hw := hw.2 hc2
    by_cases hc3 : x2 = 3
    · have hw := hw.1 hc3
      refine G_tableIn (pc := 12) C 76 dX12_packed_12 (by rw [hc3]; decide) (by rw [hc3]; decide) (off := 64) (by rw [hc3]; rfl) (by decide) ?_
      refine G_aload_n (pc := 76) C 0 dX12_packed_76 rfl rfl ?_
      refine G_iload_n (pc := 77) C 1 dX12_packed_77 rfl rfl ?_
      obtain ⟨hk, hw⟩ := hw
      refine cl_RX12_175 (pc := 78) C (c_X12_packedFirst l z (a0) (x1) S _ hw) ⟨Nat.le_of_ble_eq_true rfl, Nat.le_of_ble_eq_true rfl⟩ hk dX12_packed_78 (Nat.le_of_ble_eq_true rfl) (fun v S' hp => ?_)
      clear hw
      obtain ⟨hS, e8, rfl, hw⟩ := hp
      subst S'
      exact G_iret (pc := 81) C rfl dX12_packed_81 ⟨_, rfl, hw⟩
    have hw := hw.2 hc3
    by_cases hc4 : x2 = 4
    · have hw := hw.1 hc4
      refine G_tableIn (pc := 12) C 82 dX12_packed_12 (by rw [hc4]; decide) (by rw [hc4]; decide) (off := 70) (by rw [hc4]; rfl) (by decide) ?_
      refine G_aload_n (pc := 82) C 0 dX12_packed_82 rfl rfl ?_
      refine G_iload_n (pc := 83) C 1 dX12_packed_83 rfl rfl ?_
      obtain ⟨hk, hw⟩ := hw
      refine cl_RX12_181 (pc := 84) C (c_X12_fewest l z (a0) (x1) S _ hw) ⟨Nat.le_of_ble_eq_true rfl, Nat.le_of_ble_eq_true rfl⟩ hk dX12_packed_84 (Nat.le_of_ble_eq_true rfl) (fun v S' hp => ?_)
      clear hw
      obtain ⟨hS, e10, rfl, hw⟩ := hp
      subst S'
      exact G_iret (pc := 87) C rfl dX12_packed_87 ⟨_, rfl, hw⟩
    have hw := hw.2 hc4
    by_cases hc5 : x2 = 5
    · have hw := hw.1 hc5
      refine G_tableIn (pc := 12) C 88 dX12_packed_12 (by rw [hc5]; decide) (by rw [hc5]; decide) (off := 76) (by rw [hc5]; rfl) (by decide) ?_
      refine G_aload_n (pc := 88) C 0 dX12_packed_88 rfl rfl ?_
      refine G_iload_n (pc := 89) C 1 dX12_packed_89 rfl rfl ?_
      obtain ⟨hk, hw⟩ := hw
      refine cl_RX12_193 (pc := 90) C (c_X12_opening l z (a0) (x1) S _ hw) ⟨Nat.le_of_ble_eq_true rfl, Nat.le_of_ble_eq_true rfl⟩ hk dX12_packed_90 (Nat.le_of_ble_eq_true rfl) (fun v S' hp => ?_)
      clear hw
      obtain ⟨hS, e12, rfl, hw⟩ := hp
      subst S'
      exact G_iret (pc := 93) C rfl dX12_packed_93 ⟨_, rfl, hw⟩
    have hw := hw.2 hc5
    refine G_tableOut (pc := 12) C 94 dX12_packed_12 (by have k0 := ne_ti hc0 (by decide : (0 : Int32).toInt = 0); have k1 := ne_ti hc1 (by decide : (1 : Int32).toInt = 1); have k2 := ne_ti hc2 (by decide : (2 : Int32).toInt = 2); have k3 := ne_ti hc3 (by decide : (3 : Int32).toInt = 3); have k4 := ne_ti hc4 (by decide : (4 : Int32).toInt = 4); have k5 := ne_ti hc5 (by decide : (5 : Int32).toInt = 5); omega) (by decide) ?_
    refine G_bipush (pc := 94) C (v := -3) dX12_packed_94 (by decide) ?_
    exact G_iret (pc := 96) C rfl dX12_packed_96 ⟨_, rfl, hw⟩
  · have hw := hw.2 hc
    refine G_bipush (pc := 8) C (v := -2) dX12_packed_8 (by decide) ?_
    exact G_iret (pc := 10) C rfl dX12_packed_10 ⟨_, rfl, hw⟩
/-! FirstPartsModel.read(II)I -/
abbrev wp_X12_read_31  (Q : Int32 → Hp → Prop)  (S : Hp) : Prop :=
  Q (-2 : Int32) S
abbrev wp_X12_read (a0 : Nat) (x1 : Int32) (x2 : Int32) (S : Hp) (Q : Int32 → Hp → Prop) : Prop :=
  kd S a0 = 13 ∧ wp_X12_isPacked (a0) (x1) S (fun e1 => ((e1 = 0 → wp_X12_read_31 Q (S)) ∧ (¬ e1 = 0 → kd S a0 = 13 ∧ ∃ b3, (gR S 193 a0 0) = some b3 ∧ kd S b3 = 20 ∧ vp_in ((96 : Int32) + ((3 : Int32) * x1)) (ln S b3) ∧ wp_X12_in ((x2).toInt64) ((0 : Int64)) ((((gI S 0 b3 (((96 : Int32) + ((3 : Int32) * x1))).toNatClampNeg) - (1 : Int32))).toInt64) S (fun e4 => ((e4 ≠ 0 → kd S a0 = 13 ∧ wp_X12_packedNeed (a0) (x1) S (fun e6 => kd S a0 = 13 ∧ wp_X12_packedFirst (a0) (x1) S (fun e8 => ¬ e6 = 0 ∧ ∀ e10 : Int32, e10 = (e8 + (x2 / e6)) → kd S a0 = 13 ∧ wp_X12_holders (a0) (e10) S (fun e11 => wp_X12_ones (e11) S (fun e13 => ((e6 ≤ e13 → wp_X12_firsts (e11) (e6) S (fun e15 => kd S a0 = 13 ∧ wp_X12_lays (a0) (e10) (e15) S (fun S18 => kd S18 a0 = 13 ∧ ¬ e6 = 0 ∧ ∃ b19, (gR S18 204 a0 0) = some b19 ∧ kd S18 b19 = 20 ∧ vp_in (x2 - x2 / e6 * e6) (ln S18 b19) ∧ Q (gI S18 0 b19 ((x2 - x2 / e6 * e6)).toNatClampNeg) S18))) ∧ (¬ e6 ≤ e13 → Q (-4 : Int32) S))))))) ∧ (e4 = 0 → wp_X12_read_31 Q (S)))))))
set_option maxHeartbeats 4000000 in
set_option maxRecDepth 100000 in
theorem g_X12_read_31 (C : Cx p s m args meth c z cX12_read 6 RX12 (some .int) "read")  {Q : Int32 → Hp → Prop}  {S : Hp}   (hw : wp_X12_read_31  Q  S) : Go p l e { frames := 3, cells := 0, slots := 0, locals := 74 } s m args below meth c z 6 (MQ below (Qx z (wI Q)) args s 0 0 (own z)) (0) (0) 31 [] [] (S) := by
  refine G_bipush (pc := 31) C (v := -2) dX12_read_31 (by decide) ?_
  exact G_iret (pc := 33) C rfl dX12_read_33 ⟨_, rfl, hw⟩
set_option maxHeartbeats 4000000 in
set_option maxRecDepth 100000 in
theorem c_X12_read (l : Launch) (z : Zt) (a0 : Nat) (x1 : Int32) (x2 : Int32) (S : Hp) (Q : Int32 → Hp → Prop) (hw : wp_X12_read a0 x1 x2 S Q) : Ct l z yX12_read cX12_read 6 (some .int) 3 74 0 0 [.ref (a0), .int (x1), .int (x2)] S (wI Q) := by
  refine Ct_of (by decide) (Nat.le_of_ble_eq_true rfl) ?_
  intro p e s m args below meth c C
  have C : Cx p s m args meth c z cX12_read 6 RX12 (some .int) "read" := C
  refine G_sub (lv' := [(0, .ref (a0)), (1, .int (x1)), (2, .int (x2))]) [0, 1, 2] rfl ?_
  refine G_aload_n (pc := 0) C 0 dX12_read_0 rfl rfl ?_
  refine G_iload_n (pc := 1) C 1 dX12_read_1 rfl rfl ?_
  obtain ⟨hk, hw⟩ := hw
  refine cl_RX12_187 (pc := 2) C (c_X12_isPacked l z (a0) (x1) S _ hw) ⟨Nat.le_of_ble_eq_true rfl, Nat.le_of_ble_eq_true rfl⟩ hk dX12_read_2 (Nat.le_of_ble_eq_true rfl) (fun v S' hp => ?_)
  clear hw
  obtain ⟨hS, e1, rfl, hw⟩ := hp
  subst S'
  refine G_if_eq (pc := 5) C 31 dX12_read_5 (by decide) (fun hc => ?_) (fun hc => ?_)
  · have hw := hw.1 hc
    exact G_sub [] rfl (g_X12_read_31 C  hw)
  · have hw := hw.2 hc
    refine G_iload_n (pc := 8) C 2 dX12_read_8 rfl rfl ?_
    refine G_i2l (pc := 9) C dX12_read_9 ?_
    refine G_lconst (pc := 10) C (v := 0) dX12_read_10 (by decide) ?_
    refine G_aload_n (pc := 11) C 0 dX12_read_11 rfl rfl ?_
    obtain ⟨hk, hw⟩ := hw
    refine gf_RX12_7 (pc := 12) C dX12_read_12 hk ?_
    refine G_bipush (pc := 15) C (v := 96) dX12_read_15 (by decide) ?_
    refine G_iconst (pc := 17) C (v := 3) dX12_read_17 (by decide) ?_
    refine G_iload_n (pc := 18) C 1 dX12_read_18 rfl rfl ?_
    refine G_imul (pc := 19) C dX12_read_19 ?_
    refine G_iadd (pc := 20) C dX12_read_20 ?_
    obtain ⟨b3, hq, hw⟩ := hw
    rw [hq]
    obtain ⟨hk, hi, hw⟩ := hw
    refine G_iald (pc := 21) C hk hi dX12_read_21 ?_
    refine G_iconst (pc := 22) C (v := 1) dX12_read_22 (by decide) ?_
    refine G_isub (pc := 23) C dX12_read_23 ?_
    refine G_i2l (pc := 24) C dX12_read_24 ?_
    refine cl_RX12_31 (pc := 25) C (c_X12_in l z ((x2).toInt64) ((0 : Int64)) ((((gI S 0 b3 (((96 : Int32) + ((3 : Int32) * x1))).toNatClampNeg) - (1 : Int32))).toInt64) S _ hw) ⟨Nat.le_of_ble_eq_true rfl, Nat.le_of_ble_eq_true rfl⟩ dX12_read_25 (Nat.le_of_ble_eq_true rfl) (fun v S' hp => ?_)
    clear hw
    obtain ⟨hS, e4, rfl, hw⟩ := hp
    subst S'
    refine G_if_ne (pc := 28) C 34 dX12_read_28 (by decide) (fun hc => ?_) (fun hc => ?_)
    · have hw := hw.1 hc
      refine G_aload_n (pc := 34) C 0 dX12_read_34 rfl rfl ?_
      refine G_iload_n (pc := 35) C 1 dX12_read_35 rfl rfl ?_
      obtain ⟨hk, hw⟩ := hw
      refine cl_RX12_151 (pc := 36) C (c_X12_packedNeed l z (a0) (x1) S _ hw) ⟨Nat.le_of_ble_eq_true rfl, Nat.le_of_ble_eq_true rfl⟩ hk dX12_read_36 (Nat.le_of_ble_eq_true rfl) (fun v S' hp => ?_)
      clear hw
      obtain ⟨hS, e6, rfl, hw⟩ := hp
      subst S'
      refine G_istore_n (pc := 39) C [(3, .int (e6)), (0, .ref (a0)), (1, .int (x1)), (2, .int (x2))] dX12_read_39 rfl (by decide) rfl ?_
      refine G_aload_n (pc := 40) C 1 dX12_read_40 rfl rfl ?_
      refine G_iload_n (pc := 41) C 2 dX12_read_41 rfl rfl ?_
      obtain ⟨hk, hw⟩ := hw
      refine cl_RX12_175 (pc := 42) C (c_X12_packedFirst l z (a0) (x1) S _ hw) ⟨Nat.le_of_ble_eq_true rfl, Nat.le_of_ble_eq_true rfl⟩ hk dX12_read_42 (Nat.le_of_ble_eq_true rfl) (fun v S' hp => ?_)
      clear hw
      obtain ⟨hS, e8, rfl, hw⟩ := hp
      subst S'
      refine G_iload_n (pc := 45) C 3 dX12_read_45 rfl rfl ?_
      refine G_iload_n (pc := 46) C 0 dX12_read_46 rfl rfl ?_
      obtain ⟨h0, hw⟩ := hw
      refine G_idiv (pc := 47) C dX12_read_47 h0 ?_
      refine G_iadd (pc := 48) C dX12_read_48 ?_
      refine G_topi (fun e10 he10 => ?_)
      have hw := hw e10 he10
      clear he10
      refine G_istore (pc := 49) C [(4, .int (e10)), (3, .int (e6)), (0, .ref (a0)), (1, .int (x1)), (2, .int (x2))] dX12_read_49 (by decide) rfl ?_
      refine G_aload_n (pc := 51) C 2 dX12_read_51 rfl rfl ?_
      refine G_iload (pc := 52) C 0 dX12_read_52 rfl ?_
      obtain ⟨hk, hw⟩ := hw
      refine cl_RX12_160 (pc := 54) C (c_X12_holders l z (a0) (e10) S _ hw) ⟨Nat.le_of_ble_eq_true rfl, Nat.le_of_ble_eq_true rfl⟩ hk dX12_read_54 (Nat.le_of_ble_eq_true rfl) (fun v S' hp => ?_)
      clear hw
      obtain ⟨hS, e11, rfl, hw⟩ := hp
      subst S'
      refine G_istore (pc := 57) C [(5, .int (e11)), (4, .int (e10)), (3, .int (e6)), (0, .ref (a0)), (1, .int (x1)), (2, .int (x2))] dX12_read_57 (by decide) rfl ?_
      refine G_iload (pc := 59) C 0 dX12_read_59 rfl ?_
      refine cl_RX12_163 (pc := 61) C (c_X12_ones l z (e11) S _ hw) ⟨Nat.le_of_ble_eq_true rfl, Nat.le_of_ble_eq_true rfl⟩ dX12_read_61 (Nat.le_of_ble_eq_true rfl) (fun v S' hp => ?_)
      clear hw
      obtain ⟨hS, e13, rfl, hw⟩ := hp
      subst S'
      refine G_iload_n (pc := 64) C 2 dX12_read_64 rfl rfl ?_
      refine G_icmp_ge (pc := 65) C 71 dX12_read_65 (by decide) (fun hc => ?_) (fun hc => ?_)
      · have hw := hw.1 hc
        refine G_aload_n (pc := 71) C 3 dX12_read_71 rfl rfl ?_
        refine G_iload (pc := 72) C 1 dX12_read_72 rfl ?_
        refine G_iload (pc := 74) C 0 dX12_read_74 rfl ?_
        refine G_iload_n (pc := 76) C 2 dX12_read_76 rfl rfl ?_
        refine cl_RX12_178 (pc := 77) C (c_X12_firsts l z (e11) (e6) S _ hw) ⟨Nat.le_of_ble_eq_true rfl, Nat.le_of_ble_eq_true rfl⟩ dX12_read_77 (Nat.le_of_ble_eq_true rfl) (fun v S' hp => ?_)
        clear hw
        obtain ⟨hS, e15, rfl, hw⟩ := hp
        subst S'
        obtain ⟨hk, hw⟩ := hw
        refine cl_RX12_166 (pc := 80) C (c_X12_lays l z (a0) (e10) (e15) S _ hw) ⟨Nat.le_of_ble_eq_true rfl, Nat.le_of_ble_eq_true rfl⟩ hk dX12_read_80 (Nat.le_of_ble_eq_true rfl) (fun v S' hp => ?_)
        clear hw
        obtain ⟨rfl, hw⟩ := hp
        generalize S' = S18 at hw ⊢
        refine G_aload_n (pc := 83) C 3 dX12_read_83 rfl rfl ?_
        obtain ⟨hk, hw⟩ := hw
        refine gf_RX12_22 (pc := 84) C dX12_read_84 hk ?_
        refine G_iload_n (pc := 87) C 5 dX12_read_87 rfl rfl ?_
        refine G_iload_n (pc := 88) C 2 dX12_read_88 rfl rfl ?_
        obtain ⟨h0, hw⟩ := hw
        refine G_irem (pc := 89) C dX12_read_89 h0 ?_
        obtain ⟨b19, hq, hw⟩ := hw
        rw [hq]
        obtain ⟨hk, hi, hw⟩ := hw
        refine G_iald (pc := 90) C hk hi dX12_read_90 ?_
        exact G_iret (pc := 91) C rfl dX12_read_91 ⟨_, rfl, hw⟩
      · have hw := hw.2 hc
        refine G_bipush (pc := 68) C (v := -4) dX12_read_68 (by decide) ?_
        exact G_iret (pc := 70) C rfl dX12_read_70 ⟨_, rfl, hw⟩
    · have hw := hw.2 hc
      exact G_sub [] rfl (g_X12_read_31 C  hw)
/-! FirstPartsModel.mended(II)I -/
abbrev wp_X12_mended_31  (Q : Int32 → Hp → Prop)  (S : Hp) : Prop :=
  Q (-2 : Int32) S
abbrev wp_X12_mended_89  (Q : Int32 → Hp → Prop) (s0 : Int32) (S : Hp) : Prop :=
  Q s0 S
abbrev wp_X12_mended (a0 : Nat) (x1 : Int32) (x2 : Int32) (S : Hp) (Q : Int32 → Hp → Prop) : Prop :=
  kd S a0 = 13 ∧ wp_X12_isPacked (a0) (x1) S (fun e1 => ((e1 = 0 → wp_X12_mended_31 Q (S)) ∧ (¬ e1 = 0 → kd S a0 = 13 ∧ ∃ b3, (gR S 193 a0 0) = some b3 ∧ kd S b3 = 20 ∧ vp_in ((96 : Int32) + ((3 : Int32) * x1)) (ln S b3) ∧ wp_X12_in ((x2).toInt64) ((0 : Int64)) ((((gI S 0 b3 (((96 : Int32) + ((3 : Int32) * x1))).toNatClampNeg) - (1 : Int32))).toInt64) S (fun e4 => ((e4 ≠ 0 → kd S a0 = 13 ∧ wp_X12_packedNeed (a0) (x1) S (fun e6 => kd S a0 = 13 ∧ wp_X12_packedFirst (a0) (x1) S (fun e8 => ¬ e6 = 0 ∧ ∀ e10 : Int32, e10 = (e8 + (x2 / e6)) → kd S a0 = 13 ∧ wp_X12_holders (a0) (e10) S (fun e11 => wp_X12_ones (e11) S (fun e13 => ((e6 ≤ e13 → kd S a0 = 13 ∧ wp_X12_mends (a0) (e10) (e6) S (fun e15 S16 => ((e15 = 0 → wp_X12_mended_89 Q ((-1 : Int32)) (S16)) ∧ (¬ e15 = 0 → kd S16 a0 = 13 ∧ ¬ e6 = 0 ∧ ∃ b17, (gR S16 204 a0 0) = some b17 ∧ kd S16 b17 = 20 ∧ vp_in (x2 - x2 / e6 * e6) (ln S16 b17) ∧ wp_X12_mended_89 Q ((gI S16 0 b17 ((x2 - x2 / e6 * e6)).toNatClampNeg)) (S16))))) ∧ (¬ e6 ≤ e13 → Q (-4 : Int32) S))))))) ∧ (e4 = 0 → wp_X12_mended_31 Q (S)))))))
set_option maxHeartbeats 4000000 in
set_option maxRecDepth 100000 in
theorem g_X12_mended_31 (C : Cx p s m args meth c z cX12_mended 5 RX12 (some .int) "mended")  {Q : Int32 → Hp → Prop}  {S : Hp}   (hw : wp_X12_mended_31  Q  S) : Go p l e { frames := 4, cells := 0, slots := 0, locals := 99 } s m args below meth c z 5 (MQ below (Qx z (wI Q)) args s 0 0 (own z)) (0) (0) 31 [] [] (S) := by
  refine G_bipush (pc := 31) C (v := -2) dX12_mended_31 (by decide) ?_
  exact G_iret (pc := 33) C rfl dX12_mended_33 ⟨_, rfl, hw⟩
set_option maxHeartbeats 4000000 in
set_option maxRecDepth 100000 in
theorem g_X12_mended_89 (C : Cx p s m args meth c z cX12_mended 5 RX12 (some .int) "mended")  {Q : Int32 → Hp → Prop} {s0 : Int32} {S : Hp}   (hw : wp_X12_mended_89  Q s0 S) : Go p l e { frames := 4, cells := 0, slots := 0, locals := 99 } s m args below meth c z 5 (MQ below (Qx z (wI Q)) args s 0 0 (own z)) (0) (0) 89 [] [.int (s0)] (S) := by
  exact G_iret (pc := 89) C rfl dX12_mended_89 ⟨_, rfl, hw⟩
set_option maxHeartbeats 4000000 in
set_option maxRecDepth 100000 in
theorem c_X12_mended (l : Launch) (z : Zt) (a0 : Nat) (x1 : Int32) (x2 : Int32) (S : Hp) (Q : Int32 → Hp → Prop) (hw : wp_X12_mended a0 x1 x2 S Q) : Ct l z yX12_mended cX12_mended 5 (some .int) 4 99 0 0 [.ref (a0), .int (x1), .int (x2)] S (wI Q) := by
  refine Ct_of (by decide) (Nat.le_of_ble_eq_true rfl) ?_
  intro p e s m args below meth c C
  have C : Cx p s m args meth c z cX12_mended 5 RX12 (some .int) "mended" := C
  refine G_sub (lv' := [(0, .ref (a0)), (1, .int (x1)), (2, .int (x2))]) [0, 1, 2] rfl ?_
  refine G_aload_n (pc := 0) C 0 dX12_mended_0 rfl rfl ?_
  refine G_iload_n (pc := 1) C 1 dX12_mended_1 rfl rfl ?_
  obtain ⟨hk, hw⟩ := hw
  refine cl_RX12_187 (pc := 2) C (c_X12_isPacked l z (a0) (x1) S _ hw) ⟨Nat.le_of_ble_eq_true rfl, Nat.le_of_ble_eq_true rfl⟩ hk dX12_mended_2 (Nat.le_of_ble_eq_true rfl) (fun v S' hp => ?_)
  clear hw
  obtain ⟨hS, e1, rfl, hw⟩ := hp
  subst S'
  refine G_if_eq (pc := 5) C 31 dX12_mended_5 (by decide) (fun hc => ?_) (fun hc => ?_)
  · have hw := hw.1 hc
    exact G_sub [] rfl (g_X12_mended_31 C  hw)
  · have hw := hw.2 hc
    refine G_iload_n (pc := 8) C 2 dX12_mended_8 rfl rfl ?_
    refine G_i2l (pc := 9) C dX12_mended_9 ?_
    refine G_lconst (pc := 10) C (v := 0) dX12_mended_10 (by decide) ?_
    refine G_aload_n (pc := 11) C 0 dX12_mended_11 rfl rfl ?_
    obtain ⟨hk, hw⟩ := hw
    refine gf_RX12_7 (pc := 12) C dX12_mended_12 hk ?_
    refine G_bipush (pc := 15) C (v := 96) dX12_mended_15 (by decide) ?_
    refine G_iconst (pc := 17) C (v := 3) dX12_mended_17 (by decide) ?_
    refine G_iload_n (pc := 18) C 1 dX12_mended_18 rfl rfl ?_
    refine G_imul (pc := 19) C dX12_mended_19 ?_
    refine G_iadd (pc := 20) C dX12_mended_20 ?_
    obtain ⟨b3, hq, hw⟩ := hw
    rw [hq]
    obtain ⟨hk, hi, hw⟩ := hw
    refine G_iald (pc := 21) C hk hi dX12_mended_21 ?_
    refine G_iconst (pc := 22) C (v := 1) dX12_mended_22 (by decide) ?_
    refine G_isub (pc := 23) C dX12_mended_23 ?_
    refine G_i2l (pc := 24) C dX12_mended_24 ?_
    refine cl_RX12_31 (pc := 25) C (c_X12_in l z ((x2).toInt64) ((0 : Int64)) ((((gI S 0 b3 (((96 : Int32) + ((3 : Int32) * x1))).toNatClampNeg) - (1 : Int32))).toInt64) S _ hw) ⟨Nat.le_of_ble_eq_true rfl, Nat.le_of_ble_eq_true rfl⟩ dX12_mended_25 (Nat.le_of_ble_eq_true rfl) (fun v S' hp => ?_)
    clear hw
    obtain ⟨hS, e4, rfl, hw⟩ := hp
    subst S'
    refine G_if_ne (pc := 28) C 34 dX12_mended_28 (by decide) (fun hc => ?_) (fun hc => ?_)
    · have hw := hw.1 hc
      refine G_aload_n (pc := 34) C 0 dX12_mended_34 rfl rfl ?_
      refine G_iload_n (pc := 35) C 1 dX12_mended_35 rfl rfl ?_
      obtain ⟨hk, hw⟩ := hw
      refine cl_RX12_151 (pc := 36) C (c_X12_packedNeed l z (a0) (x1) S _ hw) ⟨Nat.le_of_ble_eq_true rfl, Nat.le_of_ble_eq_true rfl⟩ hk dX12_mended_36 (Nat.le_of_ble_eq_true rfl) (fun v S' hp => ?_)
      clear hw
      obtain ⟨hS, e6, rfl, hw⟩ := hp
      subst S'
      refine G_istore_n (pc := 39) C [(3, .int (e6)), (0, .ref (a0)), (1, .int (x1)), (2, .int (x2))] dX12_mended_39 rfl (by decide) rfl ?_
      refine G_aload_n (pc := 40) C 1 dX12_mended_40 rfl rfl ?_
      refine G_iload_n (pc := 41) C 2 dX12_mended_41 rfl rfl ?_
      obtain ⟨hk, hw⟩ := hw
      refine cl_RX12_175 (pc := 42) C (c_X12_packedFirst l z (a0) (x1) S _ hw) ⟨Nat.le_of_ble_eq_true rfl, Nat.le_of_ble_eq_true rfl⟩ hk dX12_mended_42 (Nat.le_of_ble_eq_true rfl) (fun v S' hp => ?_)
      clear hw
      obtain ⟨hS, e8, rfl, hw⟩ := hp
      subst S'
      refine G_iload_n (pc := 45) C 3 dX12_mended_45 rfl rfl ?_
      refine G_iload_n (pc := 46) C 0 dX12_mended_46 rfl rfl ?_
      obtain ⟨h0, hw⟩ := hw
      refine G_idiv (pc := 47) C dX12_mended_47 h0 ?_
      refine G_iadd (pc := 48) C dX12_mended_48 ?_
      refine G_topi (fun e10 he10 => ?_)
      have hw := hw e10 he10
      clear he10
      refine G_istore (pc := 49) C [(4, .int (e10)), (3, .int (e6)), (0, .ref (a0)), (1, .int (x1)), (2, .int (x2))] dX12_mended_49 (by decide) rfl ?_
      refine G_aload_n (pc := 51) C 2 dX12_mended_51 rfl rfl ?_
      refine G_iload (pc := 52) C 0 dX12_mended_52 rfl ?_
      obtain ⟨hk, hw⟩ := hw
      refine cl_RX12_160 (pc := 54) C (c_X12_holders l z (a0) (e10) S _ hw) ⟨Nat.le_of_ble_eq_true rfl, Nat.le_of_ble_eq_true rfl⟩ hk dX12_mended_54 (Nat.le_of_ble_eq_true rfl) (fun v S' hp => ?_)
      clear hw
      obtain ⟨hS, e11, rfl, hw⟩ := hp
      subst S'
      refine cl_RX12_163 (pc := 57) C (c_X12_ones l z (e11) S _ hw) ⟨Nat.le_of_ble_eq_true rfl, Nat.le_of_ble_eq_true rfl⟩ dX12_mended_57 (Nat.le_of_ble_eq_true rfl) (fun v S' hp => ?_)
      clear hw
      obtain ⟨hS, e13, rfl, hw⟩ := hp
      subst S'
      refine G_iload_n (pc := 60) C 1 dX12_mended_60 rfl rfl ?_
      refine G_icmp_ge (pc := 61) C 67 dX12_mended_61 (by decide) (fun hc => ?_) (fun hc => ?_)
      · have hw := hw.1 hc
        refine G_aload_n (pc := 67) C 2 dX12_mended_67 rfl rfl ?_
        refine G_iload (pc := 68) C 0 dX12_mended_68 rfl ?_
        refine G_iload_n (pc := 70) C 1 dX12_mended_70 rfl rfl ?_
        obtain ⟨hk, hw⟩ := hw
        refine cl_RX12_196 (pc := 71) C (c_X12_mends l z (a0) (e10) (e6) S _ hw) ⟨Nat.le_of_ble_eq_true rfl, Nat.le_of_ble_eq_true rfl⟩ hk dX12_mended_71 (Nat.le_of_ble_eq_true rfl) (fun v S' hp => ?_)
        clear hw
        obtain ⟨e15, rfl, hw⟩ := hp
        generalize S' = S16 at hw ⊢
        refine G_if_eq (pc := 74) C 88 dX12_mended_74 (by decide) (fun hc => ?_) (fun hc => ?_)
        · have hw := hw.1 hc
          refine G_iconst (pc := 88) C (v := -1) dX12_mended_88 (by decide) ?_
          exact G_sub [] rfl (g_X12_mended_89 C  hw)
        · have hw := hw.2 hc
          refine G_aload_n (pc := 77) C 2 dX12_mended_77 rfl rfl ?_
          obtain ⟨hk, hw⟩ := hw
          refine gf_RX12_22 (pc := 78) C dX12_mended_78 hk ?_
          refine G_iload_n (pc := 81) C 4 dX12_mended_81 rfl rfl ?_
          refine G_iload_n (pc := 82) C 1 dX12_mended_82 rfl rfl ?_
          obtain ⟨h0, hw⟩ := hw
          refine G_irem (pc := 83) C dX12_mended_83 h0 ?_
          obtain ⟨b17, hq, hw⟩ := hw
          rw [hq]
          obtain ⟨hk, hi, hw⟩ := hw
          refine G_iald (pc := 84) C hk hi dX12_mended_84 ?_
          refine G_goto (pc := 85) C 89 dX12_mended_85 (by decide) ?_
          exact G_sub [] rfl (g_X12_mended_89 C  hw)
      · have hw := hw.2 hc
        refine G_bipush (pc := 64) C (v := -4) dX12_mended_64 (by decide) ?_
        exact G_iret (pc := 66) C rfl dX12_mended_66 ⟨_, rfl, hw⟩
    · have hw := hw.2 hc
      exact G_sub [] rfl (g_X12_mended_31 C  hw)
/-! FirstPartsModel.blamed(I)I -/
abbrev wp_X12_blamed_120 (K15 : Int32 → Int32 → Hp → Prop) (K29 : Int32 → Int32 → Hp → Prop) (Q : Int32 → Hp → Prop) (v0 : Nat) (v1 : Int32) (v3 : Int32) (v4 : Int32) (s0 : Int32) (s1 : Int32) (S : Hp) : Prop :=
  ∀ e12 : Int32, e12 = (s1 + s0) → ∀ e13 : Int32, e13 = (v4 + 1) → K29 (e12) (e13) (S)
abbrev wp_X12_blamed_119 (K15 : Int32 → Int32 → Hp → Prop) (K29 : Int32 → Int32 → Hp → Prop) (Q : Int32 → Hp → Prop) (v0 : Nat) (v1 : Int32) (v3 : Int32) (v4 : Int32) (s0 : Int32) (S : Hp) : Prop :=
  wp_X12_blamed_120 K15 K29 Q (v0) (v1) (v3) (v4) ((0 : Int32)) (s0) (S)
abbrev wp_X12_blamed_95 (K15 : Int32 → Int32 → Hp → Prop) (K29 : Int32 → Int32 → Hp → Prop) (Q : Int32 → Hp → Prop) (v0 : Nat) (v1 : Int32) (v2 : Int32) (v3 : Int32) (v4 : Int32) (v5 : Int32) (s0 : Int32) (S : Hp) : Prop :=
  ((s0 = 0 → wp_X12_blamed_119 K15 K29 Q (v0) (v1) (v3) (v4) (v2) (S)) ∧ (¬ s0 = 0 → kd S v0 = 13 ∧ wp_X12_on (v0) (v5) (((1 : Int32) <<< (v1 &&& 31))) S (fun e14 => ((e14 ≠ 0 → wp_X12_blamed_119 K15 K29 Q (v0) (v1) (v3) (v4) (v2) (S)) ∧ (e14 = 0 → wp_X12_blamed_120 K15 K29 Q (v0) (v1) (v3) (v4) ((1 : Int32)) (v2) (S))))))
abbrev wp_X12_blamed_94 (K15 : Int32 → Int32 → Hp → Prop) (K29 : Int32 → Int32 → Hp → Prop) (Q : Int32 → Hp → Prop) (v0 : Nat) (v1 : Int32) (v2 : Int32) (v3 : Int32) (v4 : Int32) (v5 : Int32) (S : Hp) : Prop :=
  wp_X12_blamed_95 K15 K29 Q (v0) (v1) (v2) (v3) (v4) (v5) ((0 : Int32)) (S)
abbrev wb_X12_blamed_29 (K15 : Int32 → Int32 → Hp → Prop) (K29 : Int32 → Int32 → Hp → Prop) (Q : Int32 → Hp → Prop) (v0 : Nat) (v1 : Int32) (v2 : Int32) (v3 : Int32) (v4 : Int32) (S : Hp) : Prop :=
  kd S v0 = 13 ∧ wp_X12_packedStripes (v0) (v3) S (fun e4 => ((e4 ≤ v4 → ∀ e6 : Int32, e6 = (v3 + 1) → K15 (v2) (e6) (S)) ∧ (¬ e4 ≤ v4 → kd S v0 = 13 ∧ wp_X12_packedFirst (v0) (v3) S (fun e7 => ∀ e9 : Int32, e9 = (e7 + v4) → kd S v0 = 13 ∧ wp_X12_hasNumber (v0) (v1) (e9) S (fun e10 => ((e10 = 0 → wp_X12_blamed_94 K15 K29 Q (v0) (v1) (v2) (v3) (v4) (e9) (S)) ∧ (¬ e10 = 0 → kd S v0 = 13 ∧ wp_X12_holders (v0) (e9) S (fun e16 => wp_X12_ones (e16) S (fun e18 => kd S v0 = 13 ∧ wp_X12_packedNeed (v0) (v3) S (fun e20 => ((e18 < e20 → wp_X12_blamed_94 K15 K29 Q (v0) (v1) (v2) (v3) (v4) (e9) (S)) ∧ (¬ e18 < e20 → kd S v0 = 13 ∧ wp_X12_packedNeed (v0) (v3) S (fun e22 => kd S v0 = 13 ∧ wp_X12_mends (v0) (e9) (e22) S (fun e24 S25 => ((e24 = 0 → wp_X12_blamed_94 K15 K29 Q (v0) (v1) (v2) (v3) (v4) (e9) (S25)) ∧ (¬ e24 = 0 → wp_X12_blamed_95 K15 K29 Q (v0) (v1) (v2) (v3) (v4) (e9) ((1 : Int32)) (S25)))))))))))))))))
abbrev wp_X12_blamed_29 (K15 : Int32 → Int32 → Hp → Prop) (Q : Int32 → Hp → Prop) (v0 : Nat) (v1 : Int32) (v2 : Int32) (v3 : Int32) (v4 : Int32) (S : Hp) : Prop :=
  Lp (X := Int32 × Int32 × Hp) (fun K y => wb_X12_blamed_29 K15 (fun w0 w1 w2 => K (w0, w1, w2)) Q v0 v1 y.1 v3 y.2.1 y.2.2) (v2, v4, S)
abbrev wb_X12_blamed_15  (K15 : Int32 → Int32 → Hp → Prop) (Q : Int32 → Hp → Prop) (v0 : Nat) (v1 : Int32) (v2 : Int32) (v3 : Int32) (S : Hp) : Prop :=
  kd S v0 = 13 ∧ ∃ b3, (gR S 193 v0 0) = some b3 ∧ kd S b3 = 20 ∧ vp_in (93 : Int32) (ln S b3) ∧ (((gI S 0 b3 ((93 : Int32)).toNatClampNeg) ≤ v3 → Q v2 S) ∧ (¬ (gI S 0 b3 ((93 : Int32)).toNatClampNeg) ≤ v3 → wp_X12_blamed_29 K15 Q (v0) (v1) (v2) (v3) ((0 : Int32)) (S)))
abbrev wp_X12_blamed_15  (Q : Int32 → Hp → Prop) (v0 : Nat) (v1 : Int32) (v2 : Int32) (v3 : Int32) (S : Hp) : Prop :=
  Lp (X := Int32 × Int32 × Hp) (fun K y => wb_X12_blamed_15  (fun w0 w1 w2 => K (w0, w1, w2)) Q v0 v1 y.1 y.2.1 y.2.2) (v2, v3, S)
abbrev wp_X12_blamed (a0 : Nat) (x1 : Int32) (S : Hp) (Q : Int32 → Hp → Prop) : Prop :=
  kd S a0 = 13 ∧ wp_X12_isPacket (a0) (x1) S (fun e1 => ((e1 ≠ 0 → wp_X12_blamed_15 Q (a0) (x1) ((0 : Int32)) ((0 : Int32)) (S)) ∧ (e1 = 0 → Q (-2 : Int32) S)))
set_option maxHeartbeats 4000000 in
set_option maxRecDepth 100000 in
theorem g_X12_blamed_120 (C : Cx p s m args meth c z cX12_blamed 7 RX12 (some .int) "blamed") {K15 : Int32 → Int32 → Hp → Prop} {K29 : Int32 → Int32 → Hp → Prop} {Q : Int32 → Hp → Prop} {v0 : Nat} {v1 : Int32} {v3 : Int32} {v4 : Int32} {s0 : Int32} {s1 : Int32} {S : Hp}  (hK15 : ∀ (w2 : Int32) (w3 : Int32) (S2 : Hp), K15 w2 w3 S2 → Go p l e { frames := 4, cells := 0, slots := 0, locals := 99 } s m args below meth c z 7 (MQ below (Qx z (wI Q)) args s 0 0 (own z)) (0) (0) 15 [(0, .ref (v0)), (1, .int (v1)), (2, .int (w2)), (3, .int (w3))] [] (S2)) (hK29 : ∀ (w2 : Int32) (w4 : Int32) (S2 : Hp), K29 w2 w4 S2 → Go p l e { frames := 4, cells := 0, slots := 0, locals := 99 } s m args below meth c z 7 (MQ below (Qx z (wI Q)) args s 0 0 (own z)) (0) (0) 29 [(0, .ref (v0)), (1, .int (v1)), (2, .int (w2)), (3, .int (v3)), (4, .int (w4))] [] (S2)) (hw : wp_X12_blamed_120 K15 K29 Q v0 v1 v3 v4 s0 s1 S) : Go p l e { frames := 4, cells := 0, slots := 0, locals := 99 } s m args below meth c z 7 (MQ below (Qx z (wI Q)) args s 0 0 (own z)) (0) (0) 120 [(0, .ref (v0)), (1, .int (v1)), (3, .int (v3)), (4, .int (v4))] [.int (s0), .int (s1)] (S) := by
  refine G_iadd (pc := 120) C dX12_blamed_120 ?_
  refine G_topi (fun e12 he12 => ?_)
  have hw := hw e12 he12
  clear he12
  refine G_istore_n (pc := 121) C [(2, .int (e12)), (0, .ref (v0)), (1, .int (v1)), (3, .int (v3)), (4, .int (v4))] dX12_blamed_121 rfl (by decide) rfl ?_
  obtain ⟨e13, he13⟩ : ∃ y : Int32, y = (v4 + 1) := ⟨_, rfl⟩
  have hw := hw e13 he13
  refine G_iinc (pc := 122) C [(4, .int (e13)), (2, .int (e12)), (0, .ref (v0)), (1, .int (v1)), (3, .int (v3))] 4 (v := e13) dX12_blamed_122 rfl (by rw [he13]; rfl) (by decide) rfl ?_
  clear he13
  refine G_goto (pc := 125) C 29 dX12_blamed_125 (by decide) ?_
  exact G_sub [2, 3, 1, 4, 0] rfl (hK29 _ _ _ hw)
set_option maxHeartbeats 4000000 in
set_option maxRecDepth 100000 in
theorem g_X12_blamed_119 (C : Cx p s m args meth c z cX12_blamed 7 RX12 (some .int) "blamed") {K15 : Int32 → Int32 → Hp → Prop} {K29 : Int32 → Int32 → Hp → Prop} {Q : Int32 → Hp → Prop} {v0 : Nat} {v1 : Int32} {v3 : Int32} {v4 : Int32} {s0 : Int32} {S : Hp}  (hK15 : ∀ (w2 : Int32) (w3 : Int32) (S2 : Hp), K15 w2 w3 S2 → Go p l e { frames := 4, cells := 0, slots := 0, locals := 99 } s m args below meth c z 7 (MQ below (Qx z (wI Q)) args s 0 0 (own z)) (0) (0) 15 [(0, .ref (v0)), (1, .int (v1)), (2, .int (w2)), (3, .int (w3))] [] (S2)) (hK29 : ∀ (w2 : Int32) (w4 : Int32) (S2 : Hp), K29 w2 w4 S2 → Go p l e { frames := 4, cells := 0, slots := 0, locals := 99 } s m args below meth c z 7 (MQ below (Qx z (wI Q)) args s 0 0 (own z)) (0) (0) 29 [(0, .ref (v0)), (1, .int (v1)), (2, .int (w2)), (3, .int (v3)), (4, .int (w4))] [] (S2)) (hw : wp_X12_blamed_119 K15 K29 Q v0 v1 v3 v4 s0 S) : Go p l e { frames := 4, cells := 0, slots := 0, locals := 99 } s m args below meth c z 7 (MQ below (Qx z (wI Q)) args s 0 0 (own z)) (0) (0) 119 [(0, .ref (v0)), (1, .int (v1)), (3, .int (v3)), (4, .int (v4))] [.int (s0)] (S) := by
  refine G_iconst (pc := 119) C (v := 0) dX12_blamed_119 (by decide) ?_
  exact G_sub [0, 1, 2, 3] rfl (g_X12_blamed_120 C hK15 hK29 hw)
set_option maxHeartbeats 4000000 in
set_option maxRecDepth 100000 in
theorem g_X12_blamed_95 (C : Cx p s m args meth c z cX12_blamed 7 RX12 (some .int) "blamed") {K15 : Int32 → Int32 → Hp → Prop} {K29 : Int32 → Int32 → Hp → Prop} {Q : Int32 → Hp → Prop} {v0 : Nat} {v1 : Int32} {v2 : Int32} {v3 : Int32} {v4 : Int32} {v5 : Int32} {s0 : Int32} {S : Hp}  (hK15 : ∀ (w2 : Int32) (w3 : Int32) (S2 : Hp), K15 w2 w3 S2 → Go p l e { frames := 4, cells := 0, slots := 0, locals := 99 } s m args below meth c z 7 (MQ below (Qx z (wI Q)) args s 0 0 (own z)) (0) (0) 15 [(0, .ref (v0)), (1, .int (v1)), (2, .int (w2)), (3, .int (w3))] [] (S2)) (hK29 : ∀ (w2 : Int32) (w4 : Int32) (S2 : Hp), K29 w2 w4 S2 → Go p l e { frames := 4, cells := 0, slots := 0, locals := 99 } s m args below meth c z 7 (MQ below (Qx z (wI Q)) args s 0 0 (own z)) (0) (0) 29 [(0, .ref (v0)), (1, .int (v1)), (2, .int (w2)), (3, .int (v3)), (4, .int (w4))] [] (S2)) (hw : wp_X12_blamed_95 K15 K29 Q v0 v1 v2 v3 v4 v5 s0 S) : Go p l e { frames := 4, cells := 0, slots := 0, locals := 99 } s m args below meth c z 7 (MQ below (Qx z (wI Q)) args s 0 0 (own z)) (0) (0) 95 [(0, .ref (v0)), (1, .int (v1)), (2, .int (v2)), (3, .int (v3)), (4, .int (v4)), (5, .int (v5))] [.int (s0)] (S) := by
  refine G_istore (pc := 95) C [(6, .int (s0)), (0, .ref (v0)), (1, .int (v1)), (2, .int (v2)), (3, .int (v3)), (4, .int (v4)), (5, .int (v5))] dX12_blamed_95 (by decide) rfl ?_
  refine G_iload_n (pc := 97) C 3 dX12_blamed_97 rfl rfl ?_
  refine G_iload (pc := 98) C 0 dX12_blamed_98 rfl ?_
  refine G_if_eq (pc := 100) C 119 dX12_blamed_100 (by decide) (fun hc => ?_) (fun hc => ?_)
  · have hw := hw.1 hc
    exact G_sub [1, 2, 4, 5] rfl (g_X12_blamed_119 C hK15 hK29 hw)
  · have hw := hw.2 hc
    refine G_aload_n (pc := 103) C 1 dX12_blamed_103 rfl rfl ?_
    refine G_iload (pc := 104) C 6 dX12_blamed_104 rfl ?_
    refine G_iconst (pc := 106) C (v := 1) dX12_blamed_106 (by decide) ?_
    refine G_iload_n (pc := 107) C 2 dX12_blamed_107 rfl rfl ?_
    refine G_ishl (pc := 108) C dX12_blamed_108 ?_
    obtain ⟨hk, hw⟩ := hw
    refine cl_RX12_169 (pc := 109) C (c_X12_on l z (v0) (v5) (((1 : Int32) <<< (v1 &&& 31))) S _ hw) ⟨Nat.le_of_ble_eq_true rfl, Nat.le_of_ble_eq_true rfl⟩ hk dX12_blamed_109 (Nat.le_of_ble_eq_true rfl) (fun v S' hp => ?_)
    clear hw
    obtain ⟨hS, e14, rfl, hw⟩ := hp
    subst S'
    refine G_if_ne (pc := 112) C 119 dX12_blamed_112 (by decide) (fun hc => ?_) (fun hc => ?_)
    · have hw := hw.1 hc
      exact G_sub [1, 2, 4, 5] rfl (g_X12_blamed_119 C hK15 hK29 hw)
    · have hw := hw.2 hc
      refine G_iconst (pc := 115) C (v := 1) dX12_blamed_115 (by decide) ?_
      refine G_goto (pc := 116) C 120 dX12_blamed_116 (by decide) ?_
      exact G_sub [1, 2, 4, 5] rfl (g_X12_blamed_120 C hK15 hK29 hw)
set_option maxHeartbeats 4000000 in
set_option maxRecDepth 100000 in
theorem g_X12_blamed_94 (C : Cx p s m args meth c z cX12_blamed 7 RX12 (some .int) "blamed") {K15 : Int32 → Int32 → Hp → Prop} {K29 : Int32 → Int32 → Hp → Prop} {Q : Int32 → Hp → Prop} {v0 : Nat} {v1 : Int32} {v2 : Int32} {v3 : Int32} {v4 : Int32} {v5 : Int32} {S : Hp}  (hK15 : ∀ (w2 : Int32) (w3 : Int32) (S2 : Hp), K15 w2 w3 S2 → Go p l e { frames := 4, cells := 0, slots := 0, locals := 99 } s m args below meth c z 7 (MQ below (Qx z (wI Q)) args s 0 0 (own z)) (0) (0) 15 [(0, .ref (v0)), (1, .int (v1)), (2, .int (w2)), (3, .int (w3))] [] (S2)) (hK29 : ∀ (w2 : Int32) (w4 : Int32) (S2 : Hp), K29 w2 w4 S2 → Go p l e { frames := 4, cells := 0, slots := 0, locals := 99 } s m args below meth c z 7 (MQ below (Qx z (wI Q)) args s 0 0 (own z)) (0) (0) 29 [(0, .ref (v0)), (1, .int (v1)), (2, .int (w2)), (3, .int (v3)), (4, .int (w4))] [] (S2)) (hw : wp_X12_blamed_94 K15 K29 Q v0 v1 v2 v3 v4 v5 S) : Go p l e { frames := 4, cells := 0, slots := 0, locals := 99 } s m args below meth c z 7 (MQ below (Qx z (wI Q)) args s 0 0 (own z)) (0) (0) 94 [(0, .ref (v0)), (1, .int (v1)), (2, .int (v2)), (3, .int (v3)), (4, .int (v4)), (5, .int (v5))] [] (S) := by
  refine G_iconst (pc := 94) C (v := 0) dX12_blamed_94 (by decide) ?_
  exact G_sub [0, 1, 2, 3, 4, 5] rfl (g_X12_blamed_95 C hK15 hK29 hw)
set_option maxHeartbeats 4000000 in
set_option maxRecDepth 100000 in
theorem gb_X12_blamed_29 (C : Cx p s m args meth c z cX12_blamed 7 RX12 (some .int) "blamed") {K15 : Int32 → Int32 → Hp → Prop} {K29 : Int32 → Int32 → Hp → Prop} {Q : Int32 → Hp → Prop} {v0 : Nat} {v1 : Int32} {v2 : Int32} {v3 : Int32} {v4 : Int32} {S : Hp}  (hK15 : ∀ (w2 : Int32) (w3 : Int32) (S2 : Hp), K15 w2 w3 S2 → Go p l e { frames := 4, cells := 0, slots := 0, locals := 99 } s m args below meth c z 7 (MQ below (Qx z (wI Q)) args s 0 0 (own z)) (0) (0) 15 [(0, .ref (v0)), (1, .int (v1)), (2, .int (w2)), (3, .int (w3))] [] (S2)) (hK29 : ∀ (w2 : Int32) (w4 : Int32) (S2 : Hp), K29 w2 w4 S2 → Go p l e { frames := 4, cells := 0, slots := 0, locals := 99 } s m args below meth c z 7 (MQ below (Qx z (wI Q)) args s 0 0 (own z)) (0) (0) 29 [(0, .ref (v0)), (1, .int (v1)), (2, .int (w2)), (3, .int (v3)), (4, .int (w4))] [] (S2)) (hw : wb_X12_blamed_29 K15 K29 Q v0 v1 v2 v3 v4 S) : Go p l e { frames := 4, cells := 0, slots := 0, locals := 99 } s m args below meth c z 7 (MQ below (Qx z (wI Q)) args s 0 0 (own z)) (0) (0) 29 [(0, .ref (v0)), (1, .int (v1)), (2, .int (v2)), (3, .int (v3)), (4, .int (v4))] [] (S) := by
  refine G_iload (pc := 29) C 4 dX12_blamed_29 rfl ?_
  refine G_aload_n (pc := 31) C 0 dX12_blamed_31 rfl rfl ?_
  refine G_iload_n (pc := 32) C 3 dX12_blamed_32 rfl rfl ?_
  obtain ⟨hk, hw⟩ := hw
  refine cl_RX12_172 (pc := 33) C (c_X12_packedStripes l z (v0) (v3) S _ hw) ⟨Nat.le_of_ble_eq_true rfl, Nat.le_of_ble_eq_true rfl⟩ hk dX12_blamed_33 (Nat.le_of_ble_eq_true rfl) (fun v S' hp => ?_)
  clear hw
  obtain ⟨hS, e4, rfl, hw⟩ := hp
  subst S'
  refine G_icmp_ge (pc := 36) C 128 dX12_blamed_36 (by decide) (fun hc => ?_) (fun hc => ?_)
  · have hw := hw.1 hc
    obtain ⟨e6, he6⟩ : ∃ y : Int32, y = (v3 + 1) := ⟨_, rfl⟩
    have hw := hw e6 he6
    refine G_iinc (pc := 128) C [(3, .int (e6)), (0, .ref (v0)), (1, .int (v1)), (2, .int (v2)), (4, .int (v4))] 3 (v := e6) dX12_blamed_128 rfl (by rw [he6]; rfl) (by decide) rfl ?_
    clear he6
    refine G_goto (pc := 131) C 15 dX12_blamed_131 (by decide) ?_
    exact G_sub [1, 2, 3, 0] rfl (hK15 _ _ _ hw)
  · have hw := hw.2 hc
    refine G_aload_n (pc := 39) C 0 dX12_blamed_39 rfl rfl ?_
    refine G_iload_n (pc := 40) C 3 dX12_blamed_40 rfl rfl ?_
    obtain ⟨hk, hw⟩ := hw
    refine cl_RX12_175 (pc := 41) C (c_X12_packedFirst l z (v0) (v3) S _ hw) ⟨Nat.le_of_ble_eq_true rfl, Nat.le_of_ble_eq_true rfl⟩ hk dX12_blamed_41 (Nat.le_of_ble_eq_true rfl) (fun v S' hp => ?_)
    clear hw
    obtain ⟨hS, e7, rfl, hw⟩ := hp
    subst S'
    refine G_iload (pc := 44) C 4 dX12_blamed_44 rfl ?_
    refine G_iadd (pc := 46) C dX12_blamed_46 ?_
    refine G_topi (fun e9 he9 => ?_)
    have hw := hw e9 he9
    clear he9
    refine G_istore (pc := 47) C [(5, .int (e9)), (0, .ref (v0)), (1, .int (v1)), (2, .int (v2)), (3, .int (v3)), (4, .int (v4))] dX12_blamed_47 (by decide) rfl ?_
    refine G_aload_n (pc := 49) C 1 dX12_blamed_49 rfl rfl ?_
    refine G_iload_n (pc := 50) C 2 dX12_blamed_50 rfl rfl ?_
    refine G_iload (pc := 51) C 0 dX12_blamed_51 rfl ?_
    obtain ⟨hk, hw⟩ := hw
    refine cl_RX12_145 (pc := 53) C (c_X12_hasNumber l z (v0) (v1) (e9) S _ hw) ⟨Nat.le_of_ble_eq_true rfl, Nat.le_of_ble_eq_true rfl⟩ hk dX12_blamed_53 (Nat.le_of_ble_eq_true rfl) (fun v S' hp => ?_)
    clear hw
    obtain ⟨hS, e10, rfl, hw⟩ := hp
    subst S'
    refine G_if_eq (pc := 56) C 94 dX12_blamed_56 (by decide) (fun hc => ?_) (fun hc => ?_)
    · have hw := hw.1 hc
      exact G_sub [1, 2, 3, 4, 5, 0] rfl (g_X12_blamed_94 C hK15 hK29 hw)
    · have hw := hw.2 hc
      refine G_aload_n (pc := 59) C 1 dX12_blamed_59 rfl rfl ?_
      refine G_iload (pc := 60) C 0 dX12_blamed_60 rfl ?_
      obtain ⟨hk, hw⟩ := hw
      refine cl_RX12_160 (pc := 62) C (c_X12_holders l z (v0) (e9) S _ hw) ⟨Nat.le_of_ble_eq_true rfl, Nat.le_of_ble_eq_true rfl⟩ hk dX12_blamed_62 (Nat.le_of_ble_eq_true rfl) (fun v S' hp => ?_)
      clear hw
      obtain ⟨hS, e16, rfl, hw⟩ := hp
      subst S'
      refine cl_RX12_163 (pc := 65) C (c_X12_ones l z (e16) S _ hw) ⟨Nat.le_of_ble_eq_true rfl, Nat.le_of_ble_eq_true rfl⟩ dX12_blamed_65 (Nat.le_of_ble_eq_true rfl) (fun v S' hp => ?_)
      clear hw
      obtain ⟨hS, e18, rfl, hw⟩ := hp
      subst S'
      refine G_aload_n (pc := 68) C 1 dX12_blamed_68 rfl rfl ?_
      refine G_iload_n (pc := 69) C 4 dX12_blamed_69 rfl rfl ?_
      obtain ⟨hk, hw⟩ := hw
      refine cl_RX12_151 (pc := 70) C (c_X12_packedNeed l z (v0) (v3) S _ hw) ⟨Nat.le_of_ble_eq_true rfl, Nat.le_of_ble_eq_true rfl⟩ hk dX12_blamed_70 (Nat.le_of_ble_eq_true rfl) (fun v S' hp => ?_)
      clear hw
      obtain ⟨hS, e20, rfl, hw⟩ := hp
      subst S'
      refine G_icmp_lt (pc := 73) C 94 dX12_blamed_73 (by decide) (fun hc => ?_) (fun hc => ?_)
      · have hw := hw.1 hc
        exact G_sub [1, 2, 3, 4, 5, 0] rfl (g_X12_blamed_94 C hK15 hK29 hw)
      · have hw := hw.2 hc
        refine G_aload_n (pc := 76) C 1 dX12_blamed_76 rfl rfl ?_
        refine G_iload (pc := 77) C 0 dX12_blamed_77 rfl ?_
        refine G_aload_n (pc := 79) C 1 dX12_blamed_79 rfl rfl ?_
        refine G_iload_n (pc := 80) C 4 dX12_blamed_80 rfl rfl ?_
        obtain ⟨hk, hw⟩ := hw
        refine cl_RX12_151 (pc := 81) C (c_X12_packedNeed l z (v0) (v3) S _ hw) ⟨Nat.le_of_ble_eq_true rfl, Nat.le_of_ble_eq_true rfl⟩ hk dX12_blamed_81 (Nat.le_of_ble_eq_true rfl) (fun v S' hp => ?_)
        clear hw
        obtain ⟨hS, e22, rfl, hw⟩ := hp
        subst S'
        obtain ⟨hk, hw⟩ := hw
        refine cl_RX12_196 (pc := 84) C (c_X12_mends l z (v0) (e9) (e22) S _ hw) ⟨Nat.le_of_ble_eq_true rfl, Nat.le_of_ble_eq_true rfl⟩ hk dX12_blamed_84 (Nat.le_of_ble_eq_true rfl) (fun v S' hp => ?_)
        clear hw
        obtain ⟨e24, rfl, hw⟩ := hp
        generalize S' = S25 at hw ⊢
        refine G_if_eq (pc := 87) C 94 dX12_blamed_87 (by decide) (fun hc => ?_) (fun hc => ?_)
        · have hw := hw.1 hc
          exact G_sub [1, 2, 3, 4, 5, 0] rfl (g_X12_blamed_94 C hK15 hK29 hw)
        · have hw := hw.2 hc
          refine G_iconst (pc := 90) C (v := 1) dX12_blamed_90 (by decide) ?_
          refine G_goto (pc := 91) C 95 dX12_blamed_91 (by decide) ?_
          exact G_sub [1, 2, 3, 4, 5, 0] rfl (g_X12_blamed_95 C hK15 hK29 hw)
set_option maxHeartbeats 4000000 in
set_option maxRecDepth 100000 in
theorem g_X12_blamed_29 (C : Cx p s m args meth c z cX12_blamed 7 RX12 (some .int) "blamed") {K15 : Int32 → Int32 → Hp → Prop} {Q : Int32 → Hp → Prop} {v0 : Nat} {v1 : Int32} {v2 : Int32} {v3 : Int32} {v4 : Int32} {S : Hp}  (hK15 : ∀ (w2 : Int32) (w3 : Int32) (S2 : Hp), K15 w2 w3 S2 → Go p l e { frames := 4, cells := 0, slots := 0, locals := 99 } s m args below meth c z 7 (MQ below (Qx z (wI Q)) args s 0 0 (own z)) (0) (0) 15 [(0, .ref (v0)), (1, .int (v1)), (2, .int (w2)), (3, .int (w3))] [] (S2)) (hw : wp_X12_blamed_29 K15 Q v0 v1 v2 v3 v4 S) : Go p l e { frames := 4, cells := 0, slots := 0, locals := 99 } s m args below meth c z 7 (MQ below (Qx z (wI Q)) args s 0 0 (own z)) (0) (0) 29 [(0, .ref (v0)), (1, .int (v1)), (2, .int (v2)), (3, .int (v3)), (4, .int (v4))] [] (S) :=
  Lp_go (G := fun y : Int32 × Int32 × Hp => Go p l e { frames := 4, cells := 0, slots := 0, locals := 99 } s m args below meth c z 7 (MQ below (Qx z (wI Q)) args s 0 0 (own z)) (0) (0) 29 [(0, .ref (v0)), (1, .int (v1)), (2, .int (y.1)), (3, .int (v3)), (4, .int (y.2.1))] [] (y.2.2)) (fun K y hK hB => gb_X12_blamed_29 C hK15 (fun w0 w1 w2 h => hK (w0, w1, w2) h) hB) hw
set_option maxHeartbeats 4000000 in
set_option maxRecDepth 100000 in
theorem gb_X12_blamed_15 (C : Cx p s m args meth c z cX12_blamed 7 RX12 (some .int) "blamed") {K15 : Int32 → Int32 → Hp → Prop} {Q : Int32 → Hp → Prop} {v0 : Nat} {v1 : Int32} {v2 : Int32} {v3 : Int32} {S : Hp}  (hK15 : ∀ (w2 : Int32) (w3 : Int32) (S2 : Hp), K15 w2 w3 S2 → Go p l e { frames := 4, cells := 0, slots := 0, locals := 99 } s m args below meth c z 7 (MQ below (Qx z (wI Q)) args s 0 0 (own z)) (0) (0) 15 [(0, .ref (v0)), (1, .int (v1)), (2, .int (w2)), (3, .int (w3))] [] (S2)) (hw : wb_X12_blamed_15  K15 Q v0 v1 v2 v3 S) : Go p l e { frames := 4, cells := 0, slots := 0, locals := 99 } s m args below meth c z 7 (MQ below (Qx z (wI Q)) args s 0 0 (own z)) (0) (0) 15 [(0, .ref (v0)), (1, .int (v1)), (2, .int (v2)), (3, .int (v3))] [] (S) := by
  refine G_iload_n (pc := 15) C 3 dX12_blamed_15 rfl rfl ?_
  refine G_aload_n (pc := 16) C 0 dX12_blamed_16 rfl rfl ?_
  obtain ⟨hk, hw⟩ := hw
  refine gf_RX12_7 (pc := 17) C dX12_blamed_17 hk ?_
  refine G_bipush (pc := 20) C (v := 93) dX12_blamed_20 (by decide) ?_
  obtain ⟨b3, hq, hw⟩ := hw
  rw [hq]
  obtain ⟨hk, hi, hw⟩ := hw
  refine G_iald (pc := 22) C hk hi dX12_blamed_22 ?_
  refine G_icmp_ge (pc := 23) C 134 dX12_blamed_23 (by decide) (fun hc => ?_) (fun hc => ?_)
  · have hw := hw.1 hc
    refine G_iload_n (pc := 134) C 2 dX12_blamed_134 rfl rfl ?_
    exact G_iret (pc := 135) C rfl dX12_blamed_135 ⟨_, rfl, hw⟩
  · have hw := hw.2 hc
    refine G_iconst (pc := 26) C (v := 0) dX12_blamed_26 (by decide) ?_
    refine G_istore (pc := 27) C [(4, .int ((0 : Int32))), (0, .ref (v0)), (1, .int (v1)), (2, .int (v2)), (3, .int (v3))] dX12_blamed_27 (by decide) rfl ?_
    exact G_sub [1, 2, 3, 4, 0] rfl (g_X12_blamed_29 C hK15 hw)
set_option maxHeartbeats 4000000 in
set_option maxRecDepth 100000 in
theorem g_X12_blamed_15 (C : Cx p s m args meth c z cX12_blamed 7 RX12 (some .int) "blamed")  {Q : Int32 → Hp → Prop} {v0 : Nat} {v1 : Int32} {v2 : Int32} {v3 : Int32} {S : Hp}   (hw : wp_X12_blamed_15  Q v0 v1 v2 v3 S) : Go p l e { frames := 4, cells := 0, slots := 0, locals := 99 } s m args below meth c z 7 (MQ below (Qx z (wI Q)) args s 0 0 (own z)) (0) (0) 15 [(0, .ref (v0)), (1, .int (v1)), (2, .int (v2)), (3, .int (v3))] [] (S) :=
  Lp_go (G := fun y : Int32 × Int32 × Hp => Go p l e { frames := 4, cells := 0, slots := 0, locals := 99 } s m args below meth c z 7 (MQ below (Qx z (wI Q)) args s 0 0 (own z)) (0) (0) 15 [(0, .ref (v0)), (1, .int (v1)), (2, .int (y.1)), (3, .int (y.2.1))] [] (y.2.2)) (fun K y hK hB => gb_X12_blamed_15 C  (fun w0 w1 w2 h => hK (w0, w1, w2) h) hB) hw
set_option maxHeartbeats 4000000 in
set_option maxRecDepth 100000 in
theorem c_X12_blamed (l : Launch) (z : Zt) (a0 : Nat) (x1 : Int32) (S : Hp) (Q : Int32 → Hp → Prop) (hw : wp_X12_blamed a0 x1 S Q) : Ct l z yX12_blamed cX12_blamed 7 (some .int) 4 99 0 0 [.ref (a0), .int (x1)] S (wI Q) := by
  refine Ct_of (by decide) (Nat.le_of_ble_eq_true rfl) ?_
  intro p e s m args below meth c C
  have C : Cx p s m args meth c z cX12_blamed 7 RX12 (some .int) "blamed" := C
  refine G_sub (lv' := [(0, .ref (a0)), (1, .int (x1))]) [0, 1] rfl ?_
  refine G_aload_n (pc := 0) C 0 dX12_blamed_0 rfl rfl ?_
  refine G_iload_n (pc := 1) C 1 dX12_blamed_1 rfl rfl ?_
  obtain ⟨hk, hw⟩ := hw
  refine cl_RX12_142 (pc := 2) C (c_X12_isPacket l z (a0) (x1) S _ hw) ⟨Nat.le_of_ble_eq_true rfl, Nat.le_of_ble_eq_true rfl⟩ hk dX12_blamed_2 (Nat.le_of_ble_eq_true rfl) (fun v S' hp => ?_)
  clear hw
  obtain ⟨hS, e1, rfl, hw⟩ := hp
  subst S'
  refine G_if_ne (pc := 5) C 11 dX12_blamed_5 (by decide) (fun hc => ?_) (fun hc => ?_)
  · have hw := hw.1 hc
    refine G_iconst (pc := 11) C (v := 0) dX12_blamed_11 (by decide) ?_
    refine G_istore_n (pc := 12) C [(2, .int ((0 : Int32))), (0, .ref (a0)), (1, .int (x1))] dX12_blamed_12 rfl (by decide) rfl ?_
    refine G_iconst (pc := 13) C (v := 0) dX12_blamed_13 (by decide) ?_
    refine G_istore_n (pc := 14) C [(3, .int ((0 : Int32))), (2, .int ((0 : Int32))), (0, .ref (a0)), (1, .int (x1))] dX12_blamed_14 rfl (by decide) rfl ?_
    exact G_sub [2, 3, 1, 0] rfl (g_X12_blamed_15 C  hw)
  · have hw := hw.2 hc
    refine G_bipush (pc := 8) C (v := -2) dX12_blamed_8 (by decide) ?_
    exact G_iret (pc := 10) C rfl dX12_blamed_10 ⟨_, rfl, hw⟩
/-! FirstPartsModel.opened(I)I -/
abbrev wp_X12_opened_47 (K19 : Int32 → Int32 → Prop) (Q : Int32 → Prop) (v0 : Nat) (v1 : Int32) (v3 : Int32) (s0 : Int32) (s1 : Int32) (S : Hp) : Prop :=
  ∀ e6 : Int32, e6 = (s1 ||| s0) → ∀ e7 : Int32, e7 = (v3 + 1) → K19 (e6) (e7)
abbrev wb_X12_opened_19  (K19 : Int32 → Int32 → Prop) (Q : Int32 → Prop) (v0 : Nat) (v1 : Int32) (v2 : Int32) (v3 : Int32) (S : Hp) : Prop :=
  kd S v0 = 13 ∧ ∃ b3, (gR S 193 v0 0) = some b3 ∧ kd S b3 = 20 ∧ vp_in (93 : Int32) (ln S b3) ∧ (((gI S 0 b3 ((93 : Int32)).toNatClampNeg) ≤ v3 → Q v2) ∧ (¬ (gI S 0 b3 ((93 : Int32)).toNatClampNeg) ≤ v3 → kd S v0 = 13 ∧ wp_X12_packedNeed (v0) (v3) S (fun e4 => ((v1 < e4 → wp_X12_opened_47 K19 Q (v0) (v1) (v3) ((0 : Int32)) (v2) (S)) ∧ (¬ v1 < e4 → wp_X12_opened_47 K19 Q (v0) (v1) (v3) (((1 : Int32) <<< (v3 &&& 31))) (v2) (S))))))
abbrev wp_X12_opened_19  (Q : Int32 → Prop) (v0 : Nat) (v1 : Int32) (v2 : Int32) (v3 : Int32) (S : Hp) : Prop :=
  Lp (X := Int32 × Int32) (fun K y => wb_X12_opened_19  (fun w0 w1 => K (w0, w1)) Q v0 v1 y.1 y.2 S) (v2, v3)
abbrev wp_X12_opened (a0 : Nat) (x1 : Int32) (S : Hp) (Q : Int32 → Prop) : Prop :=
  wp_X12_in ((x1).toInt64) ((0 : Int64)) ((8 : Int64)) S (fun e1 => ((e1 ≠ 0 → wp_X12_opened_19 Q (a0) (x1) ((0 : Int32)) ((0 : Int32)) (S)) ∧ (e1 = 0 → Q (-3 : Int32))))
set_option maxHeartbeats 4000000 in
set_option maxRecDepth 100000 in
theorem g_X12_opened_47 (C : Cx p s m args meth c z cX12_opened 4 RX12 (some .int) "opened") {K19 : Int32 → Int32 → Prop} {Q : Int32 → Prop} {v0 : Nat} {v1 : Int32} {v3 : Int32} {s0 : Int32} {s1 : Int32} {S : Hp}  (hK19 : ∀ (w2 : Int32) (w3 : Int32), K19 w2 w3 → Go p l e { frames := 1, cells := 0, slots := 0, locals := 25 } s m args below meth c z 4 (MQ below (Qx z (pI S Q)) args s 0 0 (own z)) (0) (0) 19 [(0, .ref (v0)), (1, .int (v1)), (2, .int (w2)), (3, .int (w3))] [] (S)) (hw : wp_X12_opened_47 K19 Q v0 v1 v3 s0 s1 S) : Go p l e { frames := 1, cells := 0, slots := 0, locals := 25 } s m args below meth c z 4 (MQ below (Qx z (pI S Q)) args s 0 0 (own z)) (0) (0) 47 [(0, .ref (v0)), (1, .int (v1)), (3, .int (v3))] [.int (s0), .int (s1)] (S) := by
  refine G_ior (pc := 47) C dX12_opened_47 ?_
  refine G_topi (fun e6 he6 => ?_)
  have hw := hw e6 he6
  clear he6
  refine G_istore_n (pc := 48) C [(2, .int (e6)), (0, .ref (v0)), (1, .int (v1)), (3, .int (v3))] dX12_opened_48 rfl (by decide) rfl ?_
  obtain ⟨e7, he7⟩ : ∃ y : Int32, y = (v3 + 1) := ⟨_, rfl⟩
  have hw := hw e7 he7
  refine G_iinc (pc := 49) C [(3, .int (e7)), (2, .int (e6)), (0, .ref (v0)), (1, .int (v1))] 3 (v := e7) dX12_opened_49 rfl (by rw [he7]; rfl) (by decide) rfl ?_
  clear he7
  refine G_goto (pc := 52) C 19 dX12_opened_52 (by decide) ?_
  exact G_sub [2, 3, 1, 0] rfl (hK19 _ _ hw)
set_option maxHeartbeats 4000000 in
set_option maxRecDepth 100000 in
theorem gb_X12_opened_19 (C : Cx p s m args meth c z cX12_opened 4 RX12 (some .int) "opened") {K19 : Int32 → Int32 → Prop} {Q : Int32 → Prop} {v0 : Nat} {v1 : Int32} {v2 : Int32} {v3 : Int32} {S : Hp}  (hK19 : ∀ (w2 : Int32) (w3 : Int32), K19 w2 w3 → Go p l e { frames := 1, cells := 0, slots := 0, locals := 25 } s m args below meth c z 4 (MQ below (Qx z (pI S Q)) args s 0 0 (own z)) (0) (0) 19 [(0, .ref (v0)), (1, .int (v1)), (2, .int (w2)), (3, .int (w3))] [] (S)) (hw : wb_X12_opened_19  K19 Q v0 v1 v2 v3 S) : Go p l e { frames := 1, cells := 0, slots := 0, locals := 25 } s m args below meth c z 4 (MQ below (Qx z (pI S Q)) args s 0 0 (own z)) (0) (0) 19 [(0, .ref (v0)), (1, .int (v1)), (2, .int (v2)), (3, .int (v3))] [] (S) := by
  refine G_iload_n (pc := 19) C 3 dX12_opened_19 rfl rfl ?_
  refine G_aload_n (pc := 20) C 0 dX12_opened_20 rfl rfl ?_
  obtain ⟨hk, hw⟩ := hw
  refine gf_RX12_7 (pc := 21) C dX12_opened_21 hk ?_
  refine G_bipush (pc := 24) C (v := 93) dX12_opened_24 (by decide) ?_
  obtain ⟨b3, hq, hw⟩ := hw
  rw [hq]
  obtain ⟨hk, hi, hw⟩ := hw
  refine G_iald (pc := 26) C hk hi dX12_opened_26 ?_
  refine G_icmp_ge (pc := 27) C 55 dX12_opened_27 (by decide) (fun hc => ?_) (fun hc => ?_)
  · have hw := hw.1 hc
    refine G_iload_n (pc := 55) C 2 dX12_opened_55 rfl rfl ?_
    exact G_iret (pc := 56) C rfl dX12_opened_56 ⟨rfl, _, rfl, hw⟩
  · have hw := hw.2 hc
    refine G_iload_n (pc := 30) C 2 dX12_opened_30 rfl rfl ?_
    refine G_aload_n (pc := 31) C 0 dX12_opened_31 rfl rfl ?_
    refine G_iload_n (pc := 32) C 3 dX12_opened_32 rfl rfl ?_
    obtain ⟨hk, hw⟩ := hw
    refine cl_RX12_151 (pc := 33) C (c_X12_packedNeed l z (v0) (v3) S _ hw) ⟨Nat.le_of_ble_eq_true rfl, Nat.le_of_ble_eq_true rfl⟩ hk dX12_opened_33 (Nat.le_of_ble_eq_true rfl) (fun v S' hp => ?_)
    clear hw
    obtain ⟨hS, e4, rfl, hw⟩ := hp
    subst S'
    refine G_iload_n (pc := 36) C 1 dX12_opened_36 rfl rfl ?_
    refine G_icmp_gt (pc := 37) C 46 dX12_opened_37 (by decide) (fun hc => ?_) (fun hc => ?_)
    · have hw := hw.1 hc
      refine G_iconst (pc := 46) C (v := 0) dX12_opened_46 (by decide) ?_
      exact G_sub [0, 1, 3] rfl (g_X12_opened_47 C hK19 hw)
    · have hw := hw.2 hc
      refine G_iconst (pc := 40) C (v := 1) dX12_opened_40 (by decide) ?_
      refine G_iload_n (pc := 41) C 3 dX12_opened_41 rfl rfl ?_
      refine G_ishl (pc := 42) C dX12_opened_42 ?_
      refine G_goto (pc := 43) C 47 dX12_opened_43 (by decide) ?_
      exact G_sub [0, 1, 3] rfl (g_X12_opened_47 C hK19 hw)
set_option maxHeartbeats 4000000 in
set_option maxRecDepth 100000 in
theorem g_X12_opened_19 (C : Cx p s m args meth c z cX12_opened 4 RX12 (some .int) "opened")  {Q : Int32 → Prop} {v0 : Nat} {v1 : Int32} {v2 : Int32} {v3 : Int32} {S : Hp}   (hw : wp_X12_opened_19  Q v0 v1 v2 v3 S) : Go p l e { frames := 1, cells := 0, slots := 0, locals := 25 } s m args below meth c z 4 (MQ below (Qx z (pI S Q)) args s 0 0 (own z)) (0) (0) 19 [(0, .ref (v0)), (1, .int (v1)), (2, .int (v2)), (3, .int (v3))] [] (S) :=
  Lp_go (G := fun y : Int32 × Int32 => Go p l e { frames := 1, cells := 0, slots := 0, locals := 25 } s m args below meth c z 4 (MQ below (Qx z (pI S Q)) args s 0 0 (own z)) (0) (0) 19 [(0, .ref (v0)), (1, .int (v1)), (2, .int (y.1)), (3, .int (y.2))] [] (S)) (fun K y hK hB => gb_X12_opened_19 C  (fun w0 w1 h => hK (w0, w1) h) hB) hw
set_option maxHeartbeats 4000000 in
set_option maxRecDepth 100000 in
theorem c_X12_opened (l : Launch) (z : Zt) (a0 : Nat) (x1 : Int32) (S : Hp) (Q : Int32 → Prop) (hw : wp_X12_opened a0 x1 S Q) : Ct l z yX12_opened cX12_opened 4 (some .int) 1 25 0 0 [.ref (a0), .int (x1)] S (pI S Q) := by
  refine Ct_of (by decide) (Nat.le_of_ble_eq_true rfl) ?_
  intro p e s m args below meth c C
  have C : Cx p s m args meth c z cX12_opened 4 RX12 (some .int) "opened" := C
  refine G_sub (lv' := [(0, .ref (a0)), (1, .int (x1))]) [0, 1] rfl ?_
  refine G_iload_n (pc := 0) C 1 dX12_opened_0 rfl rfl ?_
  refine G_i2l (pc := 1) C dX12_opened_1 ?_
  refine G_lconst (pc := 2) C (v := 0) dX12_opened_2 (by decide) ?_
  refine G_ldc2 (pc := 3) C kl_RX12_123 dX12_opened_3 ?_
  refine cl_RX12_31 (pc := 6) C (c_X12_in l z ((x1).toInt64) ((0 : Int64)) ((8 : Int64)) S _ hw) ⟨Nat.le_of_ble_eq_true rfl, Nat.le_of_ble_eq_true rfl⟩ dX12_opened_6 (Nat.le_of_ble_eq_true rfl) (fun v S' hp => ?_)
  clear hw
  obtain ⟨hS, e1, rfl, hw⟩ := hp
  subst S'
  refine G_if_ne (pc := 9) C 15 dX12_opened_9 (by decide) (fun hc => ?_) (fun hc => ?_)
  · have hw := hw.1 hc
    refine G_iconst (pc := 15) C (v := 0) dX12_opened_15 (by decide) ?_
    refine G_istore_n (pc := 16) C [(2, .int ((0 : Int32))), (0, .ref (a0)), (1, .int (x1))] dX12_opened_16 rfl (by decide) rfl ?_
    refine G_iconst (pc := 17) C (v := 0) dX12_opened_17 (by decide) ?_
    refine G_istore_n (pc := 18) C [(3, .int ((0 : Int32))), (2, .int ((0 : Int32))), (0, .ref (a0)), (1, .int (x1))] dX12_opened_18 rfl (by decide) rfl ?_
    exact G_sub [2, 3, 1, 0] rfl (g_X12_opened_19 C  hw)
  · have hw := hw.2 hc
    refine G_bipush (pc := 12) C (v := -3) dX12_opened_12 (by decide) ?_
    exact G_iret (pc := 14) C rfl dX12_opened_14 ⟨rfl, _, rfl, hw⟩
/-! FirstPartsModel.cost(III)I -/
abbrev wp_X12_cost_57  (Q : Int32 → Prop) (s0 : Int32) (S : Hp) : Prop :=
  Q s0
abbrev wp_X12_cost (a0 : Nat) (x1 : Int32) (x2 : Int32) (x3 : Int32) (S : Hp) (Q : Int32 → Prop) : Prop :=
  kd S a0 = 13 ∧ ∃ b3, (gR S 193 a0 0) = some b3 ∧ wp_X12_at (x1) S (fun e1 => kd S b3 = 20 ∧ vp_in (e1 + (0 : Int32)) (ln S b3) ∧ wp_X12_stripes ((gI S 0 b3 ((e1 + (0 : Int32))).toNatClampNeg)) (x2) S (fun e4 => ∀ e6 : Int32, e6 = (x3 - e4) → ((0 ≤ e6 → kd S a0 = 13 ∧ ∃ b9, (gR S 193 a0 0) = some b9 ∧ wp_X12_at (x1) S (fun e7 => kd S b9 = 20 ∧ vp_in (e7 + (2 : Int32)) (ln S b9) ∧ kd S a0 = 13 ∧ ∃ b10, (gR S 206 a0 0) = some b10 ∧ kd S b10 = 20 ∧ vp_in (((41 : Int32) * (x1 + (1 : Int32))) + e6) (ln S b10) ∧ wp_X12_cost_57 Q ((((gI S 0 b9 ((e7 + (2 : Int32))).toNatClampNeg) * x2) + (gI S 0 b10 ((((41 : Int32) * (x1 + (1 : Int32))) + e6)).toNatClampNeg))) (S))) ∧ (¬ 0 ≤ e6 → wp_X12_cost_57 Q ((100000 : Int32)) (S)))))
set_option maxHeartbeats 4000000 in
set_option maxRecDepth 100000 in
theorem g_X12_cost_57 (C : Cx p s m args meth c z cX12_cost 5 RX12 (some .int) "cost")  {Q : Int32 → Prop} {s0 : Int32} {S : Hp}   (hw : wp_X12_cost_57  Q s0 S) : Go p l e { frames := 1, cells := 0, slots := 0, locals := 21 } s m args below meth c z 5 (MQ below (Qx z (pI S Q)) args s 0 0 (own z)) (0) (0) 57 [] [.int (s0)] (S) := by
  exact G_iret (pc := 57) C rfl dX12_cost_57 ⟨rfl, _, rfl, hw⟩
set_option maxHeartbeats 4000000 in
set_option maxRecDepth 100000 in
theorem c_X12_cost (l : Launch) (z : Zt) (a0 : Nat) (x1 : Int32) (x2 : Int32) (x3 : Int32) (S : Hp) (Q : Int32 → Prop) (hw : wp_X12_cost a0 x1 x2 x3 S Q) : Ct l z yX12_cost cX12_cost 5 (some .int) 1 21 0 0 [.ref (a0), .int (x1), .int (x2), .int (x3)] S (pI S Q) := by
  refine Ct_of (by decide) (Nat.le_of_ble_eq_true rfl) ?_
  intro p e s m args below meth c C
  have C : Cx p s m args meth c z cX12_cost 5 RX12 (some .int) "cost" := C
  refine G_sub (lv' := [(0, .ref (a0)), (1, .int (x1)), (2, .int (x2)), (3, .int (x3))]) [0, 1, 2, 3] rfl ?_
  refine G_iload_n (pc := 0) C 3 dX12_cost_0 rfl rfl ?_
  refine G_aload_n (pc := 1) C 0 dX12_cost_1 rfl rfl ?_
  obtain ⟨hk, hw⟩ := hw
  refine gf_RX12_7 (pc := 2) C dX12_cost_2 hk ?_
  refine G_iload_n (pc := 5) C 1 dX12_cost_5 rfl rfl ?_
  obtain ⟨b3, hq, hw⟩ := hw
  rw [hq]
  refine cl_RX12_35 (pc := 6) C (c_X12_at l z (x1) S _ hw) ⟨Nat.le_of_ble_eq_true rfl, Nat.le_of_ble_eq_true rfl⟩ dX12_cost_6 (Nat.le_of_ble_eq_true rfl) (fun v S' hp => ?_)
  clear hw
  obtain ⟨hS, e1, rfl, hw⟩ := hp
  subst S'
  refine G_iconst (pc := 9) C (v := 0) dX12_cost_9 (by decide) ?_
  refine G_iadd (pc := 10) C dX12_cost_10 ?_
  obtain ⟨hk, hi, hw⟩ := hw
  refine G_iald (pc := 11) C hk hi dX12_cost_11 ?_
  refine G_iload_n (pc := 12) C 2 dX12_cost_12 rfl rfl ?_
  refine cl_RX12_39 (pc := 13) C (c_X12_stripes l z ((gI S 0 b3 ((e1 + (0 : Int32))).toNatClampNeg)) (x2) S _ hw) ⟨Nat.le_of_ble_eq_true rfl, Nat.le_of_ble_eq_true rfl⟩ dX12_cost_13 (Nat.le_of_ble_eq_true rfl) (fun v S' hp => ?_)
  clear hw
  obtain ⟨hS, e4, rfl, hw⟩ := hp
  subst S'
  refine G_isub (pc := 16) C dX12_cost_16 ?_
  refine G_topi (fun e6 he6 => ?_)
  have hw := hw e6 he6
  clear he6
  refine G_istore (pc := 17) C [(4, .int (e6)), (0, .ref (a0)), (1, .int (x1)), (2, .int (x2)), (3, .int (x3))] dX12_cost_17 (by decide) rfl ?_
  refine G_iload (pc := 19) C 0 dX12_cost_19 rfl ?_
  refine G_if_ge (pc := 21) C 29 dX12_cost_21 (by decide) (fun hc => ?_) (fun hc => ?_)
  · have hw := hw.1 hc
    refine G_aload_n (pc := 29) C 1 dX12_cost_29 rfl rfl ?_
    obtain ⟨hk, hw⟩ := hw
    refine gf_RX12_7 (pc := 30) C dX12_cost_30 hk ?_
    refine G_iload_n (pc := 33) C 2 dX12_cost_33 rfl rfl ?_
    obtain ⟨b9, hq, hw⟩ := hw
    rw [hq]
    refine cl_RX12_35 (pc := 34) C (c_X12_at l z (x1) S _ hw) ⟨Nat.le_of_ble_eq_true rfl, Nat.le_of_ble_eq_true rfl⟩ dX12_cost_34 (Nat.le_of_ble_eq_true rfl) (fun v S' hp => ?_)
    clear hw
    obtain ⟨hS, e7, rfl, hw⟩ := hp
    subst S'
    refine G_iconst (pc := 37) C (v := 2) dX12_cost_37 (by decide) ?_
    refine G_iadd (pc := 38) C dX12_cost_38 ?_
    obtain ⟨hk, hi, hw⟩ := hw
    refine G_iald (pc := 39) C hk hi dX12_cost_39 ?_
    refine G_iload_n (pc := 40) C 3 dX12_cost_40 rfl rfl ?_
    refine G_imul (pc := 41) C dX12_cost_41 ?_
    refine G_aload_n (pc := 42) C 1 dX12_cost_42 rfl rfl ?_
    obtain ⟨hk, hw⟩ := hw
    refine gf_RX12_28 (pc := 43) C dX12_cost_43 hk ?_
    refine G_bipush (pc := 46) C (v := 41) dX12_cost_46 (by decide) ?_
    refine G_iload_n (pc := 48) C 2 dX12_cost_48 rfl rfl ?_
    refine G_iconst (pc := 49) C (v := 1) dX12_cost_49 (by decide) ?_
    refine G_iadd (pc := 50) C dX12_cost_50 ?_
    refine G_imul (pc := 51) C dX12_cost_51 ?_
    refine G_iload (pc := 52) C 0 dX12_cost_52 rfl ?_
    refine G_iadd (pc := 54) C dX12_cost_54 ?_
    obtain ⟨b10, hq, hw⟩ := hw
    rw [hq]
    obtain ⟨hk, hi, hw⟩ := hw
    refine G_iald (pc := 55) C hk hi dX12_cost_55 ?_
    refine G_iadd (pc := 56) C dX12_cost_56 ?_
    exact G_sub [] rfl (g_X12_cost_57 C  hw)
  · have hw := hw.2 hc
    refine G_ldc (pc := 24) C kw_RX12_199 dX12_cost_24 ?_
    refine G_goto (pc := 26) C 57 dX12_cost_26 (by decide) ?_
    exact G_sub [] rfl (g_X12_cost_57 C  hw)
/-! FirstPartsModel.plans()I -/
abbrev wp_X12_plans_145  (Q : Int32 → Hp → Prop) (s0 : Int32) (S : Hp) : Prop :=
  Q s0 S
abbrev wp_X12_plans_91 (K40 : Int32 → Hp → Prop) (K46 : Int32 → Hp → Prop) (K58 : Int32 → Int32 → Hp → Prop) (Q : Int32 → Hp → Prop) (v0 : Nat) (v1 : Int32) (v2 : Int32) (v4 : Int32) (s0 : Int32) (S : Hp) : Prop :=
  ∀ e13 : Int32, e13 = (v4 + 1) → K58 (s0) (e13) (S)
abbrev wb_X12_plans_58 (K40 : Int32 → Hp → Prop) (K46 : Int32 → Hp → Prop) (K58 : Int32 → Int32 → Hp → Prop) (Q : Int32 → Hp → Prop) (v0 : Nat) (v1 : Int32) (v2 : Int32) (v3 : Int32) (v4 : Int32) (S : Hp) : Prop :=
  kd S v0 = 13 ∧ ∃ b7, (gR S 193 v0 0) = some b7 ∧ kd S b7 = 20 ∧ vp_in (0 : Int32) (ln S b7) ∧ (((gI S 0 b7 ((0 : Int32)).toNatClampNeg) < v4 → kd S v0 = 13 ∧ ∃ b8, (gR S 206 v0 0) = some b8 ∧ kd S b8 = 20 ∧ vp_in (((41 : Int32) * v1) + v2) (ln S b8) ∧ ∀ S9 : Hp, S9 = sI S 0 b8 ((((41 : Int32) * v1) + v2)).toNatClampNeg v3 → ∀ e10 : Int32, e10 = (v2 + 1) → K46 (e10) (S9)) ∧ (¬ (gI S 0 b7 ((0 : Int32)).toNatClampNeg) < v4 → kd S v0 = 13 ∧ wp_X12_cost (v0) (v1) (v4) (v2) S (fun e11 => ((v3 ≤ e11 → wp_X12_plans_91 K40 K46 K58 Q (v0) (v1) (v2) (v4) (v3) (S)) ∧ (¬ v3 ≤ e11 → wp_X12_plans_91 K40 K46 K58 Q (v0) (v1) (v2) (v4) (e11) (S))))))
abbrev wp_X12_plans_58 (K40 : Int32 → Hp → Prop) (K46 : Int32 → Hp → Prop) (Q : Int32 → Hp → Prop) (v0 : Nat) (v1 : Int32) (v2 : Int32) (v3 : Int32) (v4 : Int32) (S : Hp) : Prop :=
  Lp (X := Int32 × Int32 × Hp) (fun K y => wb_X12_plans_58 K40 K46 (fun w0 w1 w2 => K (w0, w1, w2)) Q v0 v1 v2 y.1 y.2.1 y.2.2) (v3, v4, S)
abbrev wb_X12_plans_46 (K40 : Int32 → Hp → Prop) (K46 : Int32 → Hp → Prop) (Q : Int32 → Hp → Prop) (v0 : Nat) (v1 : Int32) (v2 : Int32) (S : Hp) : Prop :=
  (((41 : Int32) ≤ v2 → ∀ e6 : Int32, e6 = (v1 + (-1)) → K40 (e6) (S)) ∧ (¬ (41 : Int32) ≤ v2 → wp_X12_plans_58 K40 K46 Q (v0) (v1) (v2) ((100000 : Int32)) ((1 : Int32)) (S)))
abbrev wp_X12_plans_46 (K40 : Int32 → Hp → Prop) (Q : Int32 → Hp → Prop) (v0 : Nat) (v1 : Int32) (v2 : Int32) (S : Hp) : Prop :=
  Lp (X := Int32 × Hp) (fun K y => wb_X12_plans_46 K40 (fun w0 w1 => K (w0, w1)) Q v0 v1 y.1 y.2) (v2, S)
abbrev wb_X12_plans_40  (K40 : Int32 → Hp → Prop) (Q : Int32 → Hp → Prop) (v0 : Nat) (v1 : Int32) (S : Hp) : Prop :=
  ((v1 < 0 → kd S v0 = 13 ∧ kd S v0 = 13 ∧ ∃ b3, (gR S 193 v0 0) = some b3 ∧ kd S b3 = 20 ∧ vp_in (1 : Int32) (ln S b3) ∧ ∃ b4, (gR S 206 v0 0) = some b4 ∧ kd S b4 = 20 ∧ vp_in (gI S 0 b3 ((1 : Int32)).toNatClampNeg) (ln S b4) ∧ ∀ e5 : Int32, e5 = (gI S 0 b4 ((gI S 0 b3 ((1 : Int32)).toNatClampNeg)).toNatClampNeg) → (((100000 : Int32) ≤ e5 → wp_X12_plans_145 Q ((-1 : Int32)) (S)) ∧ (¬ (100000 : Int32) ≤ e5 → wp_X12_plans_145 Q (e5) (S)))) ∧ (¬ v1 < 0 → wp_X12_plans_46 K40 Q (v0) (v1) ((0 : Int32)) (S)))
abbrev wp_X12_plans_40  (Q : Int32 → Hp → Prop) (v0 : Nat) (v1 : Int32) (S : Hp) : Prop :=
  Lp (X := Int32 × Hp) (fun K y => wb_X12_plans_40  (fun w0 w1 => K (w0, w1)) Q v0 y.1 y.2) (v1, S)
abbrev wb_X12_plans_2  (K2 : Int32 → Hp → Prop) (Q : Int32 → Hp → Prop) (v0 : Nat) (v1 : Int32) (S : Hp) : Prop :=
  (((41 : Int32) ≤ v1 → kd S v0 = 13 ∧ ∃ b1, (gR S 193 v0 0) = some b1 ∧ kd S b1 = 20 ∧ vp_in (2 : Int32) (ln S b1) ∧ ∀ e2 : Int32, e2 = ((gI S 0 b1 ((2 : Int32)).toNatClampNeg) - (1 : Int32)) → wp_X12_plans_40 Q (v0) (e2) (S)) ∧ (¬ (41 : Int32) ≤ v1 → kd S v0 = 13 ∧ kd S v0 = 13 ∧ ∃ b14, (gR S 193 v0 0) = some b14 ∧ kd S b14 = 20 ∧ vp_in (2 : Int32) (ln S b14) ∧ ∃ b15, (gR S 206 v0 0) = some b15 ∧ kd S b15 = 20 ∧ vp_in (((41 : Int32) * (gI S 0 b14 ((2 : Int32)).toNatClampNeg)) + v1) (ln S b15) ∧ ∀ S16 : Hp, S16 = sI S 0 b15 ((((41 : Int32) * (gI S 0 b14 ((2 : Int32)).toNatClampNeg)) + v1)).toNatClampNeg (0 : Int32) → ∀ e17 : Int32, e17 = (v1 + 1) → K2 (e17) (S16)))
abbrev wp_X12_plans_2  (Q : Int32 → Hp → Prop) (v0 : Nat) (v1 : Int32) (S : Hp) : Prop :=
  Lp (X := Int32 × Hp) (fun K y => wb_X12_plans_2  (fun w0 w1 => K (w0, w1)) Q v0 y.1 y.2) (v1, S)
abbrev wp_X12_plans (a0 : Nat) (S : Hp) (Q : Int32 → Hp → Prop) : Prop :=
  wp_X12_plans_2 Q (a0) ((0 : Int32)) (S)
set_option maxHeartbeats 4000000 in
set_option maxRecDepth 100000 in
theorem g_X12_plans_145 (C : Cx p s m args meth c z cX12_plans 6 RX12 (some .int) "plans")  {Q : Int32 → Hp → Prop} {s0 : Int32} {S : Hp}   (hw : wp_X12_plans_145  Q s0 S) : Go p l e { frames := 2, cells := 0, slots := 0, locals := 45 } s m args below meth c z 6 (MQ below (Qx z (wI Q)) args s 0 0 (own z)) (0) (0) 145 [] [.int (s0)] (S) := by
  exact G_iret (pc := 145) C rfl dX12_plans_145 ⟨_, rfl, hw⟩
set_option maxHeartbeats 4000000 in
set_option maxRecDepth 100000 in
theorem g_X12_plans_91 (C : Cx p s m args meth c z cX12_plans 6 RX12 (some .int) "plans") {K40 : Int32 → Hp → Prop} {K46 : Int32 → Hp → Prop} {K58 : Int32 → Int32 → Hp → Prop} {Q : Int32 → Hp → Prop} {v0 : Nat} {v1 : Int32} {v2 : Int32} {v4 : Int32} {s0 : Int32} {S : Hp}  (hK40 : ∀ (w1 : Int32) (S2 : Hp), K40 w1 S2 → Go p l e { frames := 2, cells := 0, slots := 0, locals := 45 } s m args below meth c z 6 (MQ below (Qx z (wI Q)) args s 0 0 (own z)) (0) (0) 40 [(0, .ref (v0)), (1, .int (w1))] [] (S2)) (hK46 : ∀ (w2 : Int32) (S2 : Hp), K46 w2 S2 → Go p l e { frames := 2, cells := 0, slots := 0, locals := 45 } s m args below meth c z 6 (MQ below (Qx z (wI Q)) args s 0 0 (own z)) (0) (0) 46 [(0, .ref (v0)), (1, .int (v1)), (2, .int (w2))] [] (S2)) (hK58 : ∀ (w3 : Int32) (w4 : Int32) (S2 : Hp), K58 w3 w4 S2 → Go p l e { frames := 2, cells := 0, slots := 0, locals := 45 } s m args below meth c z 6 (MQ below (Qx z (wI Q)) args s 0 0 (own z)) (0) (0) 58 [(0, .ref (v0)), (1, .int (v1)), (2, .int (v2)), (3, .int (w3)), (4, .int (w4))] [] (S2)) (hw : wp_X12_plans_91 K40 K46 K58 Q v0 v1 v2 v4 s0 S) : Go p l e { frames := 2, cells := 0, slots := 0, locals := 45 } s m args below meth c z 6 (MQ below (Qx z (wI Q)) args s 0 0 (own z)) (0) (0) 91 [(0, .ref (v0)), (1, .int (v1)), (2, .int (v2)), (4, .int (v4))] [.int (s0)] (S) := by
  refine G_istore_n (pc := 91) C [(3, .int (s0)), (0, .ref (v0)), (1, .int (v1)), (2, .int (v2)), (4, .int (v4))] dX12_plans_91 rfl (by decide) rfl ?_
  obtain ⟨e13, he13⟩ : ∃ y : Int32, y = (v4 + 1) := ⟨_, rfl⟩
  have hw := hw e13 he13
  refine G_iinc (pc := 92) C [(4, .int (e13)), (3, .int (s0)), (0, .ref (v0)), (1, .int (v1)), (2, .int (v2))] 4 (v := e13) dX12_plans_92 rfl (by rw [he13]; rfl) (by decide) rfl ?_
  clear he13
  refine G_goto (pc := 95) C 58 dX12_plans_95 (by decide) ?_
  exact G_sub [2, 3, 4, 1, 0] rfl (hK58 _ _ _ hw)
set_option maxHeartbeats 4000000 in
set_option maxRecDepth 100000 in
theorem gb_X12_plans_58 (C : Cx p s m args meth c z cX12_plans 6 RX12 (some .int) "plans") {K40 : Int32 → Hp → Prop} {K46 : Int32 → Hp → Prop} {K58 : Int32 → Int32 → Hp → Prop} {Q : Int32 → Hp → Prop} {v0 : Nat} {v1 : Int32} {v2 : Int32} {v3 : Int32} {v4 : Int32} {S : Hp}  (hK40 : ∀ (w1 : Int32) (S2 : Hp), K40 w1 S2 → Go p l e { frames := 2, cells := 0, slots := 0, locals := 45 } s m args below meth c z 6 (MQ below (Qx z (wI Q)) args s 0 0 (own z)) (0) (0) 40 [(0, .ref (v0)), (1, .int (w1))] [] (S2)) (hK46 : ∀ (w2 : Int32) (S2 : Hp), K46 w2 S2 → Go p l e { frames := 2, cells := 0, slots := 0, locals := 45 } s m args below meth c z 6 (MQ below (Qx z (wI Q)) args s 0 0 (own z)) (0) (0) 46 [(0, .ref (v0)), (1, .int (v1)), (2, .int (w2))] [] (S2)) (hK58 : ∀ (w3 : Int32) (w4 : Int32) (S2 : Hp), K58 w3 w4 S2 → Go p l e { frames := 2, cells := 0, slots := 0, locals := 45 } s m args below meth c z 6 (MQ below (Qx z (wI Q)) args s 0 0 (own z)) (0) (0) 58 [(0, .ref (v0)), (1, .int (v1)), (2, .int (v2)), (3, .int (w3)), (4, .int (w4))] [] (S2)) (hw : wb_X12_plans_58 K40 K46 K58 Q v0 v1 v2 v3 v4 S) : Go p l e { frames := 2, cells := 0, slots := 0, locals := 45 } s m args below meth c z 6 (MQ below (Qx z (wI Q)) args s 0 0 (own z)) (0) (0) 58 [(0, .ref (v0)), (1, .int (v1)), (2, .int (v2)), (3, .int (v3)), (4, .int (v4))] [] (S) := by
  refine G_iload (pc := 58) C 4 dX12_plans_58 rfl ?_
  refine G_aload_n (pc := 60) C 0 dX12_plans_60 rfl rfl ?_
  obtain ⟨hk, hw⟩ := hw
  refine gf_RX12_7 (pc := 61) C dX12_plans_61 hk ?_
  refine G_iconst (pc := 64) C (v := 0) dX12_plans_64 (by decide) ?_
  obtain ⟨b7, hq, hw⟩ := hw
  rw [hq]
  obtain ⟨hk, hi, hw⟩ := hw
  refine G_iald (pc := 65) C hk hi dX12_plans_65 ?_
  refine G_icmp_gt (pc := 66) C 98 dX12_plans_66 (by decide) (fun hc => ?_) (fun hc => ?_)
  · have hw := hw.1 hc
    refine G_aload_n (pc := 98) C 0 dX12_plans_98 rfl rfl ?_
    obtain ⟨hk, hw⟩ := hw
    refine gf_RX12_28 (pc := 99) C dX12_plans_99 hk ?_
    refine G_bipush (pc := 102) C (v := 41) dX12_plans_102 (by decide) ?_
    refine G_iload_n (pc := 104) C 1 dX12_plans_104 rfl rfl ?_
    refine G_imul (pc := 105) C dX12_plans_105 ?_
    refine G_iload_n (pc := 106) C 2 dX12_plans_106 rfl rfl ?_
    refine G_iadd (pc := 107) C dX12_plans_107 ?_
    refine G_iload_n (pc := 108) C 3 dX12_plans_108 rfl rfl ?_
    obtain ⟨b8, hq, hw⟩ := hw
    rw [hq]
    obtain ⟨hk, hi, hw⟩ := hw
    refine G_iast (pc := 109) C hk hi dX12_plans_109 ?_
    obtain ⟨S9, hS9⟩ : ∃ y : Hp, y = sI S 0 b8 ((((41 : Int32) * v1) + v2)).toNatClampNeg v3 := ⟨_, rfl⟩
    have hw := hw S9 hS9
    rw [← hS9]
    clear hS9
    obtain ⟨e10, he10⟩ : ∃ y : Int32, y = (v2 + 1) := ⟨_, rfl⟩
    have hw := hw e10 he10
    refine G_iinc (pc := 110) C [(2, .int (e10)), (0, .ref (v0)), (1, .int (v1)), (3, .int (v3)), (4, .int (v4))] 2 (v := e10) dX12_plans_110 rfl (by rw [he10]; rfl) (by decide) rfl ?_
    clear he10
    refine G_goto (pc := 113) C 46 dX12_plans_113 (by decide) ?_
    exact G_sub [1, 2, 0] rfl (hK46 _ _ hw)
  · have hw := hw.2 hc
    refine G_aload_n (pc := 69) C 0 dX12_plans_69 rfl rfl ?_
    refine G_iload_n (pc := 70) C 1 dX12_plans_70 rfl rfl ?_
    refine G_iload (pc := 71) C 4 dX12_plans_71 rfl ?_
    refine G_iload_n (pc := 73) C 2 dX12_plans_73 rfl rfl ?_
    obtain ⟨hk, hw⟩ := hw
    refine cl_RX12_200 (pc := 74) C (c_X12_cost l z (v0) (v1) (v4) (v2) S _ hw) ⟨Nat.le_of_ble_eq_true rfl, Nat.le_of_ble_eq_true rfl⟩ hk dX12_plans_74 (Nat.le_of_ble_eq_true rfl) (fun v S' hp => ?_)
    clear hw
    obtain ⟨hS, e11, rfl, hw⟩ := hp
    subst S'
    refine G_istore (pc := 77) C [(5, .int (e11)), (0, .ref (v0)), (1, .int (v1)), (2, .int (v2)), (3, .int (v3)), (4, .int (v4))] dX12_plans_77 (by decide) rfl ?_
    refine G_iload (pc := 79) C 0 dX12_plans_79 rfl ?_
    refine G_iload_n (pc := 81) C 4 dX12_plans_81 rfl rfl ?_
    refine G_icmp_ge (pc := 82) C 90 dX12_plans_82 (by decide) (fun hc => ?_) (fun hc => ?_)
    · have hw := hw.1 hc
      refine G_iload_n (pc := 90) C 4 dX12_plans_90 rfl rfl ?_
      exact G_sub [1, 2, 3, 5] rfl (g_X12_plans_91 C hK40 hK46 hK58 hw)
    · have hw := hw.2 hc
      refine G_iload (pc := 85) C 0 dX12_plans_85 rfl ?_
      refine G_goto (pc := 87) C 91 dX12_plans_87 (by decide) ?_
      exact G_sub [1, 2, 3, 5] rfl (g_X12_plans_91 C hK40 hK46 hK58 hw)
set_option maxHeartbeats 4000000 in
set_option maxRecDepth 100000 in
theorem g_X12_plans_58 (C : Cx p s m args meth c z cX12_plans 6 RX12 (some .int) "plans") {K40 : Int32 → Hp → Prop} {K46 : Int32 → Hp → Prop} {Q : Int32 → Hp → Prop} {v0 : Nat} {v1 : Int32} {v2 : Int32} {v3 : Int32} {v4 : Int32} {S : Hp}  (hK40 : ∀ (w1 : Int32) (S2 : Hp), K40 w1 S2 → Go p l e { frames := 2, cells := 0, slots := 0, locals := 45 } s m args below meth c z 6 (MQ below (Qx z (wI Q)) args s 0 0 (own z)) (0) (0) 40 [(0, .ref (v0)), (1, .int (w1))] [] (S2)) (hK46 : ∀ (w2 : Int32) (S2 : Hp), K46 w2 S2 → Go p l e { frames := 2, cells := 0, slots := 0, locals := 45 } s m args below meth c z 6 (MQ below (Qx z (wI Q)) args s 0 0 (own z)) (0) (0) 46 [(0, .ref (v0)), (1, .int (v1)), (2, .int (w2))] [] (S2)) (hw : wp_X12_plans_58 K40 K46 Q v0 v1 v2 v3 v4 S) : Go p l e { frames := 2, cells := 0, slots := 0, locals := 45 } s m args below meth c z 6 (MQ below (Qx z (wI Q)) args s 0 0 (own z)) (0) (0) 58 [(0, .ref (v0)), (1, .int (v1)), (2, .int (v2)), (3, .int (v3)), (4, .int (v4))] [] (S) :=
  Lp_go (G := fun y : Int32 × Int32 × Hp => Go p l e { frames := 2, cells := 0, slots := 0, locals := 45 } s m args below meth c z 6 (MQ below (Qx z (wI Q)) args s 0 0 (own z)) (0) (0) 58 [(0, .ref (v0)), (1, .int (v1)), (2, .int (v2)), (3, .int (y.1)), (4, .int (y.2.1))] [] (y.2.2)) (fun K y hK hB => gb_X12_plans_58 C hK40 hK46 (fun w0 w1 w2 h => hK (w0, w1, w2) h) hB) hw
set_option maxHeartbeats 4000000 in
set_option maxRecDepth 100000 in
theorem gb_X12_plans_46 (C : Cx p s m args meth c z cX12_plans 6 RX12 (some .int) "plans") {K40 : Int32 → Hp → Prop} {K46 : Int32 → Hp → Prop} {Q : Int32 → Hp → Prop} {v0 : Nat} {v1 : Int32} {v2 : Int32} {S : Hp}  (hK40 : ∀ (w1 : Int32) (S2 : Hp), K40 w1 S2 → Go p l e { frames := 2, cells := 0, slots := 0, locals := 45 } s m args below meth c z 6 (MQ below (Qx z (wI Q)) args s 0 0 (own z)) (0) (0) 40 [(0, .ref (v0)), (1, .int (w1))] [] (S2)) (hK46 : ∀ (w2 : Int32) (S2 : Hp), K46 w2 S2 → Go p l e { frames := 2, cells := 0, slots := 0, locals := 45 } s m args below meth c z 6 (MQ below (Qx z (wI Q)) args s 0 0 (own z)) (0) (0) 46 [(0, .ref (v0)), (1, .int (v1)), (2, .int (w2))] [] (S2)) (hw : wb_X12_plans_46 K40 K46 Q v0 v1 v2 S) : Go p l e { frames := 2, cells := 0, slots := 0, locals := 45 } s m args below meth c z 6 (MQ below (Qx z (wI Q)) args s 0 0 (own z)) (0) (0) 46 [(0, .ref (v0)), (1, .int (v1)), (2, .int (v2))] [] (S) := by
  refine G_iload_n (pc := 46) C 2 dX12_plans_46 rfl rfl ?_
  refine G_bipush (pc := 47) C (v := 41) dX12_plans_47 (by decide) ?_
  refine G_icmp_ge (pc := 49) C 116 dX12_plans_49 (by decide) (fun hc => ?_) (fun hc => ?_)
  · have hw := hw.1 hc
    obtain ⟨e6, he6⟩ : ∃ y : Int32, y = (v1 + (-1)) := ⟨_, rfl⟩
    have hw := hw e6 he6
    refine G_iinc (pc := 116) C [(1, .int (e6)), (0, .ref (v0)), (2, .int (v2))] 1 (v := e6) dX12_plans_116 rfl (by rw [he6]; rfl) (by decide) rfl ?_
    clear he6
    refine G_goto (pc := 119) C 40 dX12_plans_119 (by decide) ?_
    exact G_sub [1, 0] rfl (hK40 _ _ hw)
  · have hw := hw.2 hc
    refine G_ldc (pc := 52) C kw_RX12_199 dX12_plans_52 ?_
    refine G_istore_n (pc := 54) C [(3, .int ((100000 : Int32))), (0, .ref (v0)), (1, .int (v1)), (2, .int (v2))] dX12_plans_54 rfl (by decide) rfl ?_
    refine G_iconst (pc := 55) C (v := 1) dX12_plans_55 (by decide) ?_
    refine G_istore (pc := 56) C [(4, .int ((1 : Int32))), (3, .int ((100000 : Int32))), (0, .ref (v0)), (1, .int (v1)), (2, .int (v2))] dX12_plans_56 (by decide) rfl ?_
    exact G_sub [2, 3, 4, 1, 0] rfl (g_X12_plans_58 C hK40 hK46 hw)
set_option maxHeartbeats 4000000 in
set_option maxRecDepth 100000 in
theorem g_X12_plans_46 (C : Cx p s m args meth c z cX12_plans 6 RX12 (some .int) "plans") {K40 : Int32 → Hp → Prop} {Q : Int32 → Hp → Prop} {v0 : Nat} {v1 : Int32} {v2 : Int32} {S : Hp}  (hK40 : ∀ (w1 : Int32) (S2 : Hp), K40 w1 S2 → Go p l e { frames := 2, cells := 0, slots := 0, locals := 45 } s m args below meth c z 6 (MQ below (Qx z (wI Q)) args s 0 0 (own z)) (0) (0) 40 [(0, .ref (v0)), (1, .int (w1))] [] (S2)) (hw : wp_X12_plans_46 K40 Q v0 v1 v2 S) : Go p l e { frames := 2, cells := 0, slots := 0, locals := 45 } s m args below meth c z 6 (MQ below (Qx z (wI Q)) args s 0 0 (own z)) (0) (0) 46 [(0, .ref (v0)), (1, .int (v1)), (2, .int (v2))] [] (S) :=
  Lp_go (G := fun y : Int32 × Hp => Go p l e { frames := 2, cells := 0, slots := 0, locals := 45 } s m args below meth c z 6 (MQ below (Qx z (wI Q)) args s 0 0 (own z)) (0) (0) 46 [(0, .ref (v0)), (1, .int (v1)), (2, .int (y.1))] [] (y.2)) (fun K y hK hB => gb_X12_plans_46 C hK40 (fun w0 w1 h => hK (w0, w1) h) hB) hw
set_option maxHeartbeats 4000000 in
set_option maxRecDepth 100000 in
theorem gb_X12_plans_40 (C : Cx p s m args meth c z cX12_plans 6 RX12 (some .int) "plans") {K40 : Int32 → Hp → Prop} {Q : Int32 → Hp → Prop} {v0 : Nat} {v1 : Int32} {S : Hp}  (hK40 : ∀ (w1 : Int32) (S2 : Hp), K40 w1 S2 → Go p l e { frames := 2, cells := 0, slots := 0, locals := 45 } s m args below meth c z 6 (MQ below (Qx z (wI Q)) args s 0 0 (own z)) (0) (0) 40 [(0, .ref (v0)), (1, .int (w1))] [] (S2)) (hw : wb_X12_plans_40  K40 Q v0 v1 S) : Go p l e { frames := 2, cells := 0, slots := 0, locals := 45 } s m args below meth c z 6 (MQ below (Qx z (wI Q)) args s 0 0 (own z)) (0) (0) 40 [(0, .ref (v0)), (1, .int (v1))] [] (S) := by
  refine G_iload_n (pc := 40) C 1 dX12_plans_40 rfl rfl ?_
  refine G_if_lt (pc := 41) C 122 dX12_plans_41 (by decide) (fun hc => ?_) (fun hc => ?_)
  · have hw := hw.1 hc
    refine G_aload_n (pc := 122) C 0 dX12_plans_122 rfl rfl ?_
    obtain ⟨hk, hw⟩ := hw
    refine gf_RX12_28 (pc := 123) C dX12_plans_123 hk ?_
    refine G_aload_n (pc := 126) C 0 dX12_plans_126 rfl rfl ?_
    obtain ⟨hk, hw⟩ := hw
    refine gf_RX12_7 (pc := 127) C dX12_plans_127 hk ?_
    refine G_iconst (pc := 130) C (v := 1) dX12_plans_130 (by decide) ?_
    obtain ⟨b3, hq, hw⟩ := hw
    rw [hq]
    obtain ⟨hk, hi, hw⟩ := hw
    refine G_iald (pc := 131) C hk hi dX12_plans_131 ?_
    obtain ⟨b4, hq, hw⟩ := hw
    rw [hq]
    obtain ⟨hk, hi, hw⟩ := hw
    refine G_iald (pc := 132) C hk hi dX12_plans_132 ?_
    refine G_topi (fun e5 he5 => ?_)
    have hw := hw e5 he5
    clear he5
    refine G_istore_n (pc := 133) C [(1, .int (e5)), (0, .ref (v0))] dX12_plans_133 rfl (by decide) rfl ?_
    refine G_iload_n (pc := 134) C 0 dX12_plans_134 rfl rfl ?_
    refine G_ldc (pc := 135) C kw_RX12_199 dX12_plans_135 ?_
    refine G_icmp_ge (pc := 137) C 144 dX12_plans_137 (by decide) (fun hc => ?_) (fun hc => ?_)
    · have hw := hw.1 hc
      refine G_iconst (pc := 144) C (v := -1) dX12_plans_144 (by decide) ?_
      exact G_sub [] rfl (g_X12_plans_145 C  hw)
    · have hw := hw.2 hc
      refine G_iload_n (pc := 140) C 0 dX12_plans_140 rfl rfl ?_
      refine G_goto (pc := 141) C 145 dX12_plans_141 (by decide) ?_
      exact G_sub [] rfl (g_X12_plans_145 C  hw)
  · have hw := hw.2 hc
    refine G_iconst (pc := 44) C (v := 0) dX12_plans_44 (by decide) ?_
    refine G_istore_n (pc := 45) C [(2, .int ((0 : Int32))), (0, .ref (v0)), (1, .int (v1))] dX12_plans_45 rfl (by decide) rfl ?_
    exact G_sub [1, 2, 0] rfl (g_X12_plans_46 C hK40 hw)
set_option maxHeartbeats 4000000 in
set_option maxRecDepth 100000 in
theorem g_X12_plans_40 (C : Cx p s m args meth c z cX12_plans 6 RX12 (some .int) "plans")  {Q : Int32 → Hp → Prop} {v0 : Nat} {v1 : Int32} {S : Hp}   (hw : wp_X12_plans_40  Q v0 v1 S) : Go p l e { frames := 2, cells := 0, slots := 0, locals := 45 } s m args below meth c z 6 (MQ below (Qx z (wI Q)) args s 0 0 (own z)) (0) (0) 40 [(0, .ref (v0)), (1, .int (v1))] [] (S) :=
  Lp_go (G := fun y : Int32 × Hp => Go p l e { frames := 2, cells := 0, slots := 0, locals := 45 } s m args below meth c z 6 (MQ below (Qx z (wI Q)) args s 0 0 (own z)) (0) (0) 40 [(0, .ref (v0)), (1, .int (y.1))] [] (y.2)) (fun K y hK hB => gb_X12_plans_40 C  (fun w0 w1 h => hK (w0, w1) h) hB) hw
set_option maxHeartbeats 4000000 in
set_option maxRecDepth 100000 in
theorem gb_X12_plans_2 (C : Cx p s m args meth c z cX12_plans 6 RX12 (some .int) "plans") {K2 : Int32 → Hp → Prop} {Q : Int32 → Hp → Prop} {v0 : Nat} {v1 : Int32} {S : Hp}  (hK2 : ∀ (w1 : Int32) (S2 : Hp), K2 w1 S2 → Go p l e { frames := 2, cells := 0, slots := 0, locals := 45 } s m args below meth c z 6 (MQ below (Qx z (wI Q)) args s 0 0 (own z)) (0) (0) 2 [(0, .ref (v0)), (1, .int (w1))] [] (S2)) (hw : wb_X12_plans_2  K2 Q v0 v1 S) : Go p l e { frames := 2, cells := 0, slots := 0, locals := 45 } s m args below meth c z 6 (MQ below (Qx z (wI Q)) args s 0 0 (own z)) (0) (0) 2 [(0, .ref (v0)), (1, .int (v1))] [] (S) := by
  refine G_iload_n (pc := 2) C 1 dX12_plans_2 rfl rfl ?_
  refine G_bipush (pc := 3) C (v := 41) dX12_plans_3 (by decide) ?_
  refine G_icmp_ge (pc := 5) C 31 dX12_plans_5 (by decide) (fun hc => ?_) (fun hc => ?_)
  · have hw := hw.1 hc
    refine G_aload_n (pc := 31) C 0 dX12_plans_31 rfl rfl ?_
    obtain ⟨hk, hw⟩ := hw
    refine gf_RX12_7 (pc := 32) C dX12_plans_32 hk ?_
    refine G_iconst (pc := 35) C (v := 2) dX12_plans_35 (by decide) ?_
    obtain ⟨b1, hq, hw⟩ := hw
    rw [hq]
    obtain ⟨hk, hi, hw⟩ := hw
    refine G_iald (pc := 36) C hk hi dX12_plans_36 ?_
    refine G_iconst (pc := 37) C (v := 1) dX12_plans_37 (by decide) ?_
    refine G_isub (pc := 38) C dX12_plans_38 ?_
    refine G_topi (fun e2 he2 => ?_)
    have hw := hw e2 he2
    clear he2
    refine G_istore_n (pc := 39) C [(1, .int (e2)), (0, .ref (v0))] dX12_plans_39 rfl (by decide) rfl ?_
    exact G_sub [1, 0] rfl (g_X12_plans_40 C  hw)
  · have hw := hw.2 hc
    refine G_aload_n (pc := 8) C 0 dX12_plans_8 rfl rfl ?_
    obtain ⟨hk, hw⟩ := hw
    refine gf_RX12_28 (pc := 9) C dX12_plans_9 hk ?_
    refine G_bipush (pc := 12) C (v := 41) dX12_plans_12 (by decide) ?_
    refine G_aload_n (pc := 14) C 0 dX12_plans_14 rfl rfl ?_
    obtain ⟨hk, hw⟩ := hw
    refine gf_RX12_7 (pc := 15) C dX12_plans_15 hk ?_
    refine G_iconst (pc := 18) C (v := 2) dX12_plans_18 (by decide) ?_
    obtain ⟨b14, hq, hw⟩ := hw
    rw [hq]
    obtain ⟨hk, hi, hw⟩ := hw
    refine G_iald (pc := 19) C hk hi dX12_plans_19 ?_
    refine G_imul (pc := 20) C dX12_plans_20 ?_
    refine G_iload_n (pc := 21) C 1 dX12_plans_21 rfl rfl ?_
    refine G_iadd (pc := 22) C dX12_plans_22 ?_
    refine G_iconst (pc := 23) C (v := 0) dX12_plans_23 (by decide) ?_
    obtain ⟨b15, hq, hw⟩ := hw
    rw [hq]
    obtain ⟨hk, hi, hw⟩ := hw
    refine G_iast (pc := 24) C hk hi dX12_plans_24 ?_
    obtain ⟨S16, hS16⟩ : ∃ y : Hp, y = sI S 0 b15 ((((41 : Int32) * (gI S 0 b14 ((2 : Int32)).toNatClampNeg)) + v1)).toNatClampNeg (0 : Int32) := ⟨_, rfl⟩
    have hw := hw S16 hS16
    rw [← hS16]
    clear hS16
    obtain ⟨e17, he17⟩ : ∃ y : Int32, y = (v1 + 1) := ⟨_, rfl⟩
    have hw := hw e17 he17
    refine G_iinc (pc := 25) C [(1, .int (e17)), (0, .ref (v0))] 1 (v := e17) dX12_plans_25 rfl (by rw [he17]; rfl) (by decide) rfl ?_
    clear he17
    refine G_goto (pc := 28) C 2 dX12_plans_28 (by decide) ?_
    exact G_sub [1, 0] rfl (hK2 _ _ hw)
set_option maxHeartbeats 4000000 in
set_option maxRecDepth 100000 in
theorem g_X12_plans_2 (C : Cx p s m args meth c z cX12_plans 6 RX12 (some .int) "plans")  {Q : Int32 → Hp → Prop} {v0 : Nat} {v1 : Int32} {S : Hp}   (hw : wp_X12_plans_2  Q v0 v1 S) : Go p l e { frames := 2, cells := 0, slots := 0, locals := 45 } s m args below meth c z 6 (MQ below (Qx z (wI Q)) args s 0 0 (own z)) (0) (0) 2 [(0, .ref (v0)), (1, .int (v1))] [] (S) :=
  Lp_go (G := fun y : Int32 × Hp => Go p l e { frames := 2, cells := 0, slots := 0, locals := 45 } s m args below meth c z 6 (MQ below (Qx z (wI Q)) args s 0 0 (own z)) (0) (0) 2 [(0, .ref (v0)), (1, .int (y.1))] [] (y.2)) (fun K y hK hB => gb_X12_plans_2 C  (fun w0 w1 h => hK (w0, w1) h) hB) hw
set_option maxHeartbeats 4000000 in
set_option maxRecDepth 100000 in
theorem c_X12_plans (l : Launch) (z : Zt) (a0 : Nat) (S : Hp) (Q : Int32 → Hp → Prop) (hw : wp_X12_plans a0 S Q) : Ct l z yX12_plans cX12_plans 6 (some .int) 2 45 0 0 [.ref (a0)] S (wI Q) := by
  refine Ct_of (by decide) (Nat.le_of_ble_eq_true rfl) ?_
  intro p e s m args below meth c C
  have C : Cx p s m args meth c z cX12_plans 6 RX12 (some .int) "plans" := C
  refine G_sub (lv' := [(0, .ref (a0))]) [0] rfl ?_
  refine G_iconst (pc := 0) C (v := 0) dX12_plans_0 (by decide) ?_
  refine G_istore_n (pc := 1) C [(1, .int ((0 : Int32))), (0, .ref (a0))] dX12_plans_1 rfl (by decide) rfl ?_
  exact G_sub [1, 0] rfl (g_X12_plans_2 C  hw)
/-! FirstPartsModel.plan(I)I -/
abbrev wb_X12_plan_41 (K33 : Int32 → Int32 → Int32 → Hp → Prop) (K41 : Int32 → Hp → Prop) (Q : Int32 → Hp → Prop) (v0 : Nat) (v1 : Int32) (v2 : Int32) (v3 : Int32) (v4 : Int32) (S : Hp) : Prop :=
  kd S v0 = 13 ∧ wp_X12_cost (v0) (v4) (v3) (v2) S (fun e7 => kd S v0 = 13 ∧ ∃ b9, (gR S 206 v0 0) = some b9 ∧ kd S b9 = 20 ∧ vp_in (((41 : Int32) * v4) + v2) (ln S b9) ∧ ((e7 = (gI S 0 b9 ((((41 : Int32) * v4) + v2)).toNatClampNeg) → kd S v0 = 13 ∧ ∃ b12, (gR S 193 v0 0) = some b12 ∧ wp_X12_at (v4) S (fun e10 => kd S b12 = 20 ∧ vp_in (e10 + (0 : Int32)) (ln S b12) ∧ wp_X12_stripes ((gI S 0 b12 ((e10 + (0 : Int32))).toNatClampNeg)) (v3) S (fun e13 => ∀ e15 : Int32, e15 = (v2 - e13) → ∀ e16 : Int32, e16 = (v4 + 1) → K33 (e15) (v3) (e16) (S)))) ∧ (¬ e7 = (gI S 0 b9 ((((41 : Int32) * v4) + v2)).toNatClampNeg) → ∀ e17 : Int32, e17 = (v3 + 1) → K41 (e17) (S))))
abbrev wp_X12_plan_41 (K33 : Int32 → Int32 → Int32 → Hp → Prop) (Q : Int32 → Hp → Prop) (v0 : Nat) (v1 : Int32) (v2 : Int32) (v3 : Int32) (v4 : Int32) (S : Hp) : Prop :=
  Lp (X := Int32 × Hp) (fun K y => wb_X12_plan_41 K33 (fun w0 w1 => K (w0, w1)) Q v0 v1 v2 y.1 v4 y.2) (v3, S)
abbrev wb_X12_plan_33  (K33 : Int32 → Int32 → Int32 → Hp → Prop) (Q : Int32 → Hp → Prop) (v0 : Nat) (v1 : Int32) (v2 : Int32) (v3 : Int32) (v4 : Int32) (S : Hp) : Prop :=
  ((v1 < v4 → Q v3 S) ∧ (¬ v1 < v4 → wp_X12_plan_41 K33 Q (v0) (v1) (v2) ((1 : Int32)) (v4) (S)))
abbrev wp_X12_plan_33  (Q : Int32 → Hp → Prop) (v0 : Nat) (v1 : Int32) (v2 : Int32) (v3 : Int32) (v4 : Int32) (S : Hp) : Prop :=
  Lp (X := Int32 × Int32 × Int32 × Hp) (fun K y => wb_X12_plan_33  (fun w0 w1 w2 w3 => K (w0, w1, w2, w3)) Q v0 v1 y.1 y.2.1 y.2.2.1 y.2.2.2) (v2, v3, v4, S)
abbrev wp_X12_plan (a0 : Nat) (x1 : Int32) (S : Hp) (Q : Int32 → Hp → Prop) : Prop :=
  kd S a0 = 13 ∧ wp_X12_isPart (a0) (x1) S (fun e1 => ((e1 ≠ 0 → kd S a0 = 13 ∧ wp_X12_plans (a0) S (fun e3 S4 => ((e3 ≠ (-1 : Int32) → kd S4 a0 = 13 ∧ ∃ b5, (gR S4 193 a0 0) = some b5 ∧ kd S4 b5 = 20 ∧ vp_in (1 : Int32) (ln S4 b5) ∧ ∀ e6 : Int32, e6 = (gI S4 0 b5 ((1 : Int32)).toNatClampNeg) → wp_X12_plan_33 Q (a0) (x1) (e6) ((0 : Int32)) ((0 : Int32)) (S4)) ∧ (e3 = (-1 : Int32) → Q (-1 : Int32) S4)))) ∧ (e1 = 0 → Q (-2 : Int32) S)))
set_option maxHeartbeats 4000000 in
set_option maxRecDepth 100000 in
theorem gb_X12_plan_41 (C : Cx p s m args meth c z cX12_plan 5 RX12 (some .int) "plan") {K33 : Int32 → Int32 → Int32 → Hp → Prop} {K41 : Int32 → Hp → Prop} {Q : Int32 → Hp → Prop} {v0 : Nat} {v1 : Int32} {v2 : Int32} {v3 : Int32} {v4 : Int32} {S : Hp}  (hK33 : ∀ (w2 : Int32) (w3 : Int32) (w4 : Int32) (S2 : Hp), K33 w2 w3 w4 S2 → Go p l e { frames := 3, cells := 0, slots := 0, locals := 70 } s m args below meth c z 5 (MQ below (Qx z (wI Q)) args s 0 0 (own z)) (0) (0) 33 [(0, .ref (v0)), (1, .int (v1)), (2, .int (w2)), (3, .int (w3)), (4, .int (w4))] [] (S2)) (hK41 : ∀ (w3 : Int32) (S2 : Hp), K41 w3 S2 → Go p l e { frames := 3, cells := 0, slots := 0, locals := 70 } s m args below meth c z 5 (MQ below (Qx z (wI Q)) args s 0 0 (own z)) (0) (0) 41 [(0, .ref (v0)), (1, .int (v1)), (2, .int (v2)), (3, .int (w3)), (4, .int (v4))] [] (S2)) (hw : wb_X12_plan_41 K33 K41 Q v0 v1 v2 v3 v4 S) : Go p l e { frames := 3, cells := 0, slots := 0, locals := 70 } s m args below meth c z 5 (MQ below (Qx z (wI Q)) args s 0 0 (own z)) (0) (0) 41 [(0, .ref (v0)), (1, .int (v1)), (2, .int (v2)), (3, .int (v3)), (4, .int (v4))] [] (S) := by
  refine G_aload_n (pc := 41) C 0 dX12_plan_41 rfl rfl ?_
  refine G_iload (pc := 42) C 4 dX12_plan_42 rfl ?_
  refine G_iload_n (pc := 44) C 3 dX12_plan_44 rfl rfl ?_
  refine G_iload_n (pc := 45) C 2 dX12_plan_45 rfl rfl ?_
  obtain ⟨hk, hw⟩ := hw
  refine cl_RX12_200 (pc := 46) C (c_X12_cost l z (v0) (v4) (v3) (v2) S _ hw) ⟨Nat.le_of_ble_eq_true rfl, Nat.le_of_ble_eq_true rfl⟩ hk dX12_plan_46 (Nat.le_of_ble_eq_true rfl) (fun v S' hp => ?_)
  clear hw
  obtain ⟨hS, e7, rfl, hw⟩ := hp
  subst S'
  refine G_aload_n (pc := 49) C 0 dX12_plan_49 rfl rfl ?_
  obtain ⟨hk, hw⟩ := hw
  refine gf_RX12_28 (pc := 50) C dX12_plan_50 hk ?_
  refine G_bipush (pc := 53) C (v := 41) dX12_plan_53 (by decide) ?_
  refine G_iload (pc := 55) C 4 dX12_plan_55 rfl ?_
  refine G_imul (pc := 57) C dX12_plan_57 ?_
  refine G_iload_n (pc := 58) C 2 dX12_plan_58 rfl rfl ?_
  refine G_iadd (pc := 59) C dX12_plan_59 ?_
  obtain ⟨b9, hq, hw⟩ := hw
  rw [hq]
  obtain ⟨hk, hi, hw⟩ := hw
  refine G_iald (pc := 60) C hk hi dX12_plan_60 ?_
  refine G_icmp_eq (pc := 61) C 70 dX12_plan_61 (by decide) (fun hc => ?_) (fun hc => ?_)
  · have hw := hw.1 hc
    refine G_iload_n (pc := 70) C 2 dX12_plan_70 rfl rfl ?_
    refine G_aload_n (pc := 71) C 0 dX12_plan_71 rfl rfl ?_
    obtain ⟨hk, hw⟩ := hw
    refine gf_RX12_7 (pc := 72) C dX12_plan_72 hk ?_
    refine G_iload (pc := 75) C 4 dX12_plan_75 rfl ?_
    obtain ⟨b12, hq, hw⟩ := hw
    rw [hq]
    refine cl_RX12_35 (pc := 77) C (c_X12_at l z (v4) S _ hw) ⟨Nat.le_of_ble_eq_true rfl, Nat.le_of_ble_eq_true rfl⟩ dX12_plan_77 (Nat.le_of_ble_eq_true rfl) (fun v S' hp => ?_)
    clear hw
    obtain ⟨hS, e10, rfl, hw⟩ := hp
    subst S'
    refine G_iconst (pc := 80) C (v := 0) dX12_plan_80 (by decide) ?_
    refine G_iadd (pc := 81) C dX12_plan_81 ?_
    obtain ⟨hk, hi, hw⟩ := hw
    refine G_iald (pc := 82) C hk hi dX12_plan_82 ?_
    refine G_iload_n (pc := 83) C 3 dX12_plan_83 rfl rfl ?_
    refine cl_RX12_39 (pc := 84) C (c_X12_stripes l z ((gI S 0 b12 ((e10 + (0 : Int32))).toNatClampNeg)) (v3) S _ hw) ⟨Nat.le_of_ble_eq_true rfl, Nat.le_of_ble_eq_true rfl⟩ dX12_plan_84 (Nat.le_of_ble_eq_true rfl) (fun v S' hp => ?_)
    clear hw
    obtain ⟨hS, e13, rfl, hw⟩ := hp
    subst S'
    refine G_isub (pc := 87) C dX12_plan_87 ?_
    refine G_topi (fun e15 he15 => ?_)
    have hw := hw e15 he15
    clear he15
    refine G_istore_n (pc := 88) C [(2, .int (e15)), (0, .ref (v0)), (1, .int (v1)), (3, .int (v3)), (4, .int (v4))] dX12_plan_88 rfl (by decide) rfl ?_
    obtain ⟨e16, he16⟩ : ∃ y : Int32, y = (v4 + 1) := ⟨_, rfl⟩
    have hw := hw e16 he16
    refine G_iinc (pc := 89) C [(4, .int (e16)), (2, .int (e15)), (0, .ref (v0)), (1, .int (v1)), (3, .int (v3))] 4 (v := e16) dX12_plan_89 rfl (by rw [he16]; rfl) (by decide) rfl ?_
    clear he16
    refine G_goto (pc := 92) C 33 dX12_plan_92 (by decide) ?_
    exact G_sub [2, 3, 1, 4, 0] rfl (hK33 _ _ _ _ hw)
  · have hw := hw.2 hc
    obtain ⟨e17, he17⟩ : ∃ y : Int32, y = (v3 + 1) := ⟨_, rfl⟩
    have hw := hw e17 he17
    refine G_iinc (pc := 64) C [(3, .int (e17)), (0, .ref (v0)), (1, .int (v1)), (2, .int (v2)), (4, .int (v4))] 3 (v := e17) dX12_plan_64 rfl (by rw [he17]; rfl) (by decide) rfl ?_
    clear he17
    refine G_goto (pc := 67) C 41 dX12_plan_67 (by decide) ?_
    exact G_sub [1, 2, 3, 0, 4] rfl (hK41 _ _ hw)
set_option maxHeartbeats 4000000 in
set_option maxRecDepth 100000 in
theorem g_X12_plan_41 (C : Cx p s m args meth c z cX12_plan 5 RX12 (some .int) "plan") {K33 : Int32 → Int32 → Int32 → Hp → Prop} {Q : Int32 → Hp → Prop} {v0 : Nat} {v1 : Int32} {v2 : Int32} {v3 : Int32} {v4 : Int32} {S : Hp}  (hK33 : ∀ (w2 : Int32) (w3 : Int32) (w4 : Int32) (S2 : Hp), K33 w2 w3 w4 S2 → Go p l e { frames := 3, cells := 0, slots := 0, locals := 70 } s m args below meth c z 5 (MQ below (Qx z (wI Q)) args s 0 0 (own z)) (0) (0) 33 [(0, .ref (v0)), (1, .int (v1)), (2, .int (w2)), (3, .int (w3)), (4, .int (w4))] [] (S2)) (hw : wp_X12_plan_41 K33 Q v0 v1 v2 v3 v4 S) : Go p l e { frames := 3, cells := 0, slots := 0, locals := 70 } s m args below meth c z 5 (MQ below (Qx z (wI Q)) args s 0 0 (own z)) (0) (0) 41 [(0, .ref (v0)), (1, .int (v1)), (2, .int (v2)), (3, .int (v3)), (4, .int (v4))] [] (S) :=
  Lp_go (G := fun y : Int32 × Hp => Go p l e { frames := 3, cells := 0, slots := 0, locals := 70 } s m args below meth c z 5 (MQ below (Qx z (wI Q)) args s 0 0 (own z)) (0) (0) 41 [(0, .ref (v0)), (1, .int (v1)), (2, .int (v2)), (3, .int (y.1)), (4, .int (v4))] [] (y.2)) (fun K y hK hB => gb_X12_plan_41 C hK33 (fun w0 w1 h => hK (w0, w1) h) hB) hw
set_option maxHeartbeats 4000000 in
set_option maxRecDepth 100000 in
theorem gb_X12_plan_33 (C : Cx p s m args meth c z cX12_plan 5 RX12 (some .int) "plan") {K33 : Int32 → Int32 → Int32 → Hp → Prop} {Q : Int32 → Hp → Prop} {v0 : Nat} {v1 : Int32} {v2 : Int32} {v3 : Int32} {v4 : Int32} {S : Hp}  (hK33 : ∀ (w2 : Int32) (w3 : Int32) (w4 : Int32) (S2 : Hp), K33 w2 w3 w4 S2 → Go p l e { frames := 3, cells := 0, slots := 0, locals := 70 } s m args below meth c z 5 (MQ below (Qx z (wI Q)) args s 0 0 (own z)) (0) (0) 33 [(0, .ref (v0)), (1, .int (v1)), (2, .int (w2)), (3, .int (w3)), (4, .int (w4))] [] (S2)) (hw : wb_X12_plan_33  K33 Q v0 v1 v2 v3 v4 S) : Go p l e { frames := 3, cells := 0, slots := 0, locals := 70 } s m args below meth c z 5 (MQ below (Qx z (wI Q)) args s 0 0 (own z)) (0) (0) 33 [(0, .ref (v0)), (1, .int (v1)), (2, .int (v2)), (3, .int (v3)), (4, .int (v4))] [] (S) := by
  refine G_iload (pc := 33) C 4 dX12_plan_33 rfl ?_
  refine G_iload_n (pc := 35) C 1 dX12_plan_35 rfl rfl ?_
  refine G_icmp_gt (pc := 36) C 95 dX12_plan_36 (by decide) (fun hc => ?_) (fun hc => ?_)
  · have hw := hw.1 hc
    refine G_iload_n (pc := 95) C 3 dX12_plan_95 rfl rfl ?_
    exact G_iret (pc := 96) C rfl dX12_plan_96 ⟨_, rfl, hw⟩
  · have hw := hw.2 hc
    refine G_iconst (pc := 39) C (v := 1) dX12_plan_39 (by decide) ?_
    refine G_istore_n (pc := 40) C [(3, .int ((1 : Int32))), (0, .ref (v0)), (1, .int (v1)), (2, .int (v2)), (4, .int (v4))] dX12_plan_40 rfl (by decide) rfl ?_
    exact G_sub [1, 2, 3, 0, 4] rfl (g_X12_plan_41 C hK33 hw)
set_option maxHeartbeats 4000000 in
set_option maxRecDepth 100000 in
theorem g_X12_plan_33 (C : Cx p s m args meth c z cX12_plan 5 RX12 (some .int) "plan")  {Q : Int32 → Hp → Prop} {v0 : Nat} {v1 : Int32} {v2 : Int32} {v3 : Int32} {v4 : Int32} {S : Hp}   (hw : wp_X12_plan_33  Q v0 v1 v2 v3 v4 S) : Go p l e { frames := 3, cells := 0, slots := 0, locals := 70 } s m args below meth c z 5 (MQ below (Qx z (wI Q)) args s 0 0 (own z)) (0) (0) 33 [(0, .ref (v0)), (1, .int (v1)), (2, .int (v2)), (3, .int (v3)), (4, .int (v4))] [] (S) :=
  Lp_go (G := fun y : Int32 × Int32 × Int32 × Hp => Go p l e { frames := 3, cells := 0, slots := 0, locals := 70 } s m args below meth c z 5 (MQ below (Qx z (wI Q)) args s 0 0 (own z)) (0) (0) 33 [(0, .ref (v0)), (1, .int (v1)), (2, .int (y.1)), (3, .int (y.2.1)), (4, .int (y.2.2.1))] [] (y.2.2.2)) (fun K y hK hB => gb_X12_plan_33 C  (fun w0 w1 w2 w3 h => hK (w0, w1, w2, w3) h) hB) hw
set_option maxHeartbeats 4000000 in
set_option maxRecDepth 100000 in
theorem c_X12_plan (l : Launch) (z : Zt) (a0 : Nat) (x1 : Int32) (S : Hp) (Q : Int32 → Hp → Prop) (hw : wp_X12_plan a0 x1 S Q) : Ct l z yX12_plan cX12_plan 5 (some .int) 3 70 0 0 [.ref (a0), .int (x1)] S (wI Q) := by
  refine Ct_of (by decide) (Nat.le_of_ble_eq_true rfl) ?_
  intro p e s m args below meth c C
  have C : Cx p s m args meth c z cX12_plan 5 RX12 (some .int) "plan" := C
  refine G_sub (lv' := [(0, .ref (a0)), (1, .int (x1))]) [0, 1] rfl ?_
  refine G_aload_n (pc := 0) C 0 dX12_plan_0 rfl rfl ?_
  refine G_iload_n (pc := 1) C 1 dX12_plan_1 rfl rfl ?_
  obtain ⟨hk, hw⟩ := hw
  refine cl_RX12_111 (pc := 2) C (c_X12_isPart l z (a0) (x1) S _ hw) ⟨Nat.le_of_ble_eq_true rfl, Nat.le_of_ble_eq_true rfl⟩ hk dX12_plan_2 (Nat.le_of_ble_eq_true rfl) (fun v S' hp => ?_)
  clear hw
  obtain ⟨hS, e1, rfl, hw⟩ := hp
  subst S'
  refine G_if_ne (pc := 5) C 11 dX12_plan_5 (by decide) (fun hc => ?_) (fun hc => ?_)
  · have hw := hw.1 hc
    refine G_aload_n (pc := 11) C 0 dX12_plan_11 rfl rfl ?_
    obtain ⟨hk, hw⟩ := hw
    refine cl_RX12_203 (pc := 12) C (c_X12_plans l z (a0) S _ hw) ⟨Nat.le_of_ble_eq_true rfl, Nat.le_of_ble_eq_true rfl⟩ hk dX12_plan_12 (Nat.le_of_ble_eq_true rfl) (fun v S' hp => ?_)
    clear hw
    obtain ⟨e3, rfl, hw⟩ := hp
    generalize S' = S4 at hw ⊢
    refine G_iconst (pc := 15) C (v := -1) dX12_plan_15 (by decide) ?_
    refine G_icmp_ne (pc := 16) C 21 dX12_plan_16 (by decide) (fun hc => ?_) (fun hc => ?_)
    · have hw := hw.1 hc
      refine G_aload_n (pc := 21) C 0 dX12_plan_21 rfl rfl ?_
      obtain ⟨hk, hw⟩ := hw
      refine gf_RX12_7 (pc := 22) C dX12_plan_22 hk ?_
      refine G_iconst (pc := 25) C (v := 1) dX12_plan_25 (by decide) ?_
      obtain ⟨b5, hq, hw⟩ := hw
      rw [hq]
      obtain ⟨hk, hi, hw⟩ := hw
      refine G_iald (pc := 26) C hk hi dX12_plan_26 ?_
      refine G_topi (fun e6 he6 => ?_)
      have hw := hw e6 he6
      clear he6
      refine G_istore_n (pc := 27) C [(2, .int (e6)), (0, .ref (a0)), (1, .int (x1))] dX12_plan_27 rfl (by decide) rfl ?_
      refine G_iconst (pc := 28) C (v := 0) dX12_plan_28 (by decide) ?_
      refine G_istore_n (pc := 29) C [(3, .int ((0 : Int32))), (2, .int (e6)), (0, .ref (a0)), (1, .int (x1))] dX12_plan_29 rfl (by decide) rfl ?_
      refine G_iconst (pc := 30) C (v := 0) dX12_plan_30 (by decide) ?_
      refine G_istore (pc := 31) C [(4, .int ((0 : Int32))), (3, .int ((0 : Int32))), (2, .int (e6)), (0, .ref (a0)), (1, .int (x1))] dX12_plan_31 (by decide) rfl ?_
      exact G_sub [3, 4, 2, 1, 0] rfl (g_X12_plan_33 C  hw)
    · have hw := hw.2 hc
      refine G_iconst (pc := 19) C (v := -1) dX12_plan_19 (by decide) ?_
      exact G_iret (pc := 20) C rfl dX12_plan_20 ⟨_, rfl, hw⟩
  · have hw := hw.2 hc
    refine G_bipush (pc := 8) C (v := -2) dX12_plan_8 (by decide) ?_
    exact G_iret (pc := 10) C rfl dX12_plan_10 ⟨_, rfl, hw⟩
/-! FirstPartsModel.lesser(I)I -/
abbrev wp_X12_lesser_112 (K22 : Int32 → Int32 → Int32 → Prop) (Q : Int32 → Prop) (v0 : Nat) (v1 : Int32) (v2 : Int32) (v3 : Int32) (v4 : Int32) (S : Hp) : Prop :=
  ∀ e7 : Int32, e7 = (v4 + 1) → K22 (v2) (v3) (e7)
abbrev wp_X12_lesser_81 (K22 : Int32 → Int32 → Int32 → Prop) (K41 : Int32 → Int32 → Prop) (Q : Int32 → Prop) (v0 : Nat) (v1 : Int32) (v2 : Int32) (v3 : Int32) (v4 : Int32) (v6 : Int32) (s0 : Int32) (s1 : Int32) (S : Hp) : Prop :=
  ∀ e8 : Int32, e8 = (s1 + s0) → ∀ e9 : Int32, e9 = (v6 + 1) → K41 (e8) (e9)
abbrev wb_X12_lesser_41 (K22 : Int32 → Int32 → Int32 → Prop) (K41 : Int32 → Int32 → Prop) (Q : Int32 → Prop) (v0 : Nat) (v1 : Int32) (v2 : Int32) (v3 : Int32) (v4 : Int32) (v5 : Int32) (v6 : Int32) (S : Hp) : Prop :=
  kd S v0 = 13 ∧ ∃ b4, (gR S 193 v0 0) = some b4 ∧ kd S b4 = 20 ∧ vp_in (2 : Int32) (ln S b4) ∧ (((gI S 0 b4 ((2 : Int32)).toNatClampNeg) ≤ v6 → kd S v0 = 13 ∧ wp_X12_lengthOf (v0) (v4) S (fun e5 => ((v1 < e5 → wp_X12_lesser_112 K22 Q (v0) (v1) (v2) (v3) (v4) (S)) ∧ (¬ v1 < e5 → ((v5 < v3 → wp_X12_lesser_112 K22 Q (v0) (v1) (v2) (v3) (v4) (S)) ∧ (¬ v5 < v3 → wp_X12_lesser_112 K22 Q (v0) (v1) (v4) (v5) (v4) (S))))))) ∧ (¬ (gI S 0 b4 ((2 : Int32)).toNatClampNeg) ≤ v6 → ((((v4 >>> (v6 &&& 31)) &&& (1 : Int32)) ≠ (1 : Int32) → wp_X12_lesser_81 K22 K41 Q (v0) (v1) (v2) (v3) (v4) (v6) ((0 : Int32)) (v5) (S)) ∧ (((v4 >>> (v6 &&& 31)) &&& (1 : Int32)) = (1 : Int32) → kd S v0 = 13 ∧ ∃ b12, (gR S 193 v0 0) = some b12 ∧ wp_X12_at (v6) S (fun e10 => kd S b12 = 20 ∧ vp_in (e10 + (2 : Int32)) (ln S b12) ∧ wp_X12_lesser_81 K22 K41 Q (v0) (v1) (v2) (v3) (v4) (v6) ((gI S 0 b12 ((e10 + (2 : Int32))).toNatClampNeg)) (v5) (S))))))
abbrev wp_X12_lesser_41 (K22 : Int32 → Int32 → Int32 → Prop) (Q : Int32 → Prop) (v0 : Nat) (v1 : Int32) (v2 : Int32) (v3 : Int32) (v4 : Int32) (v5 : Int32) (v6 : Int32) (S : Hp) : Prop :=
  Lp (X := Int32 × Int32) (fun K y => wb_X12_lesser_41 K22 (fun w0 w1 => K (w0, w1)) Q v0 v1 v2 v3 v4 y.1 y.2 S) (v5, v6)
abbrev wb_X12_lesser_22  (K22 : Int32 → Int32 → Int32 → Prop) (Q : Int32 → Prop) (v0 : Nat) (v1 : Int32) (v2 : Int32) (v3 : Int32) (v4 : Int32) (S : Hp) : Prop :=
  kd S v0 = 13 ∧ ∃ b3, (gR S 193 v0 0) = some b3 ∧ kd S b3 = 20 ∧ vp_in (2 : Int32) (ln S b3) ∧ ((((1 : Int32) <<< ((gI S 0 b3 ((2 : Int32)).toNatClampNeg) &&& 31)) ≤ v4 → Q v2) ∧ (¬ ((1 : Int32) <<< ((gI S 0 b3 ((2 : Int32)).toNatClampNeg) &&& 31)) ≤ v4 → wp_X12_lesser_41 K22 Q (v0) (v1) (v2) (v3) (v4) ((0 : Int32)) ((0 : Int32)) (S)))
abbrev wp_X12_lesser_22  (Q : Int32 → Prop) (v0 : Nat) (v1 : Int32) (v2 : Int32) (v3 : Int32) (v4 : Int32) (S : Hp) : Prop :=
  Lp (X := Int32 × Int32 × Int32) (fun K y => wb_X12_lesser_22  (fun w0 w1 w2 => K (w0, w1, w2)) Q v0 v1 y.1 y.2.1 y.2.2 S) (v2, v3, v4)
abbrev wp_X12_lesser (a0 : Nat) (x1 : Int32) (S : Hp) (Q : Int32 → Prop) : Prop :=
  wp_X12_in ((x1).toInt64) ((0 : Int64)) ((40 : Int64)) S (fun e1 => ((e1 ≠ 0 → wp_X12_lesser_22 Q (a0) (x1) ((0 : Int32)) ((-1 : Int32)) ((0 : Int32)) (S)) ∧ (e1 = 0 → Q (-3 : Int32))))
set_option maxHeartbeats 4000000 in
set_option maxRecDepth 100000 in
theorem g_X12_lesser_112 (C : Cx p s m args meth c z cX12_lesser 7 RX12 (some .int) "lesser") {K22 : Int32 → Int32 → Int32 → Prop} {Q : Int32 → Prop} {v0 : Nat} {v1 : Int32} {v2 : Int32} {v3 : Int32} {v4 : Int32} {S : Hp}  (hK22 : ∀ (w2 : Int32) (w3 : Int32) (w4 : Int32), K22 w2 w3 w4 → Go p l e { frames := 3, cells := 0, slots := 0, locals := 65 } s m args below meth c z 7 (MQ below (Qx z (pI S Q)) args s 0 0 (own z)) (0) (0) 22 [(0, .ref (v0)), (1, .int (v1)), (2, .int (w2)), (3, .int (w3)), (4, .int (w4))] [] (S)) (hw : wp_X12_lesser_112 K22 Q v0 v1 v2 v3 v4 S) : Go p l e { frames := 3, cells := 0, slots := 0, locals := 65 } s m args below meth c z 7 (MQ below (Qx z (pI S Q)) args s 0 0 (own z)) (0) (0) 112 [(0, .ref (v0)), (1, .int (v1)), (2, .int (v2)), (3, .int (v3)), (4, .int (v4))] [] (S) := by
  obtain ⟨e7, he7⟩ : ∃ y : Int32, y = (v4 + 1) := ⟨_, rfl⟩
  have hw := hw e7 he7
  refine G_iinc (pc := 112) C [(4, .int (e7)), (0, .ref (v0)), (1, .int (v1)), (2, .int (v2)), (3, .int (v3))] 4 (v := e7) dX12_lesser_112 rfl (by rw [he7]; rfl) (by decide) rfl ?_
  clear he7
  refine G_goto (pc := 115) C 22 dX12_lesser_115 (by decide) ?_
  exact G_sub [1, 2, 3, 4, 0] rfl (hK22 _ _ _ hw)
set_option maxHeartbeats 4000000 in
set_option maxRecDepth 100000 in
theorem g_X12_lesser_81 (C : Cx p s m args meth c z cX12_lesser 7 RX12 (some .int) "lesser") {K22 : Int32 → Int32 → Int32 → Prop} {K41 : Int32 → Int32 → Prop} {Q : Int32 → Prop} {v0 : Nat} {v1 : Int32} {v2 : Int32} {v3 : Int32} {v4 : Int32} {v6 : Int32} {s0 : Int32} {s1 : Int32} {S : Hp}  (hK22 : ∀ (w2 : Int32) (w3 : Int32) (w4 : Int32), K22 w2 w3 w4 → Go p l e { frames := 3, cells := 0, slots := 0, locals := 65 } s m args below meth c z 7 (MQ below (Qx z (pI S Q)) args s 0 0 (own z)) (0) (0) 22 [(0, .ref (v0)), (1, .int (v1)), (2, .int (w2)), (3, .int (w3)), (4, .int (w4))] [] (S)) (hK41 : ∀ (w5 : Int32) (w6 : Int32), K41 w5 w6 → Go p l e { frames := 3, cells := 0, slots := 0, locals := 65 } s m args below meth c z 7 (MQ below (Qx z (pI S Q)) args s 0 0 (own z)) (0) (0) 41 [(0, .ref (v0)), (1, .int (v1)), (2, .int (v2)), (3, .int (v3)), (4, .int (v4)), (5, .int (w5)), (6, .int (w6))] [] (S)) (hw : wp_X12_lesser_81 K22 K41 Q v0 v1 v2 v3 v4 v6 s0 s1 S) : Go p l e { frames := 3, cells := 0, slots := 0, locals := 65 } s m args below meth c z 7 (MQ below (Qx z (pI S Q)) args s 0 0 (own z)) (0) (0) 81 [(0, .ref (v0)), (1, .int (v1)), (2, .int (v2)), (3, .int (v3)), (4, .int (v4)), (6, .int (v6))] [.int (s0), .int (s1)] (S) := by
  refine G_iadd (pc := 81) C dX12_lesser_81 ?_
  refine G_topi (fun e8 he8 => ?_)
  have hw := hw e8 he8
  clear he8
  refine G_istore (pc := 82) C [(5, .int (e8)), (0, .ref (v0)), (1, .int (v1)), (2, .int (v2)), (3, .int (v3)), (4, .int (v4)), (6, .int (v6))] dX12_lesser_82 (by decide) rfl ?_
  obtain ⟨e9, he9⟩ : ∃ y : Int32, y = (v6 + 1) := ⟨_, rfl⟩
  have hw := hw e9 he9
  refine G_iinc (pc := 84) C [(6, .int (e9)), (5, .int (e8)), (0, .ref (v0)), (1, .int (v1)), (2, .int (v2)), (3, .int (v3)), (4, .int (v4))] 6 (v := e9) dX12_lesser_84 rfl (by rw [he9]; rfl) (by decide) rfl ?_
  clear he9
  refine G_goto (pc := 87) C 41 dX12_lesser_87 (by decide) ?_
  exact G_sub [2, 3, 4, 5, 6, 1, 0] rfl (hK41 _ _ hw)
set_option maxHeartbeats 4000000 in
set_option maxRecDepth 100000 in
theorem gb_X12_lesser_41 (C : Cx p s m args meth c z cX12_lesser 7 RX12 (some .int) "lesser") {K22 : Int32 → Int32 → Int32 → Prop} {K41 : Int32 → Int32 → Prop} {Q : Int32 → Prop} {v0 : Nat} {v1 : Int32} {v2 : Int32} {v3 : Int32} {v4 : Int32} {v5 : Int32} {v6 : Int32} {S : Hp}  (hK22 : ∀ (w2 : Int32) (w3 : Int32) (w4 : Int32), K22 w2 w3 w4 → Go p l e { frames := 3, cells := 0, slots := 0, locals := 65 } s m args below meth c z 7 (MQ below (Qx z (pI S Q)) args s 0 0 (own z)) (0) (0) 22 [(0, .ref (v0)), (1, .int (v1)), (2, .int (w2)), (3, .int (w3)), (4, .int (w4))] [] (S)) (hK41 : ∀ (w5 : Int32) (w6 : Int32), K41 w5 w6 → Go p l e { frames := 3, cells := 0, slots := 0, locals := 65 } s m args below meth c z 7 (MQ below (Qx z (pI S Q)) args s 0 0 (own z)) (0) (0) 41 [(0, .ref (v0)), (1, .int (v1)), (2, .int (v2)), (3, .int (v3)), (4, .int (v4)), (5, .int (w5)), (6, .int (w6))] [] (S)) (hw : wb_X12_lesser_41 K22 K41 Q v0 v1 v2 v3 v4 v5 v6 S) : Go p l e { frames := 3, cells := 0, slots := 0, locals := 65 } s m args below meth c z 7 (MQ below (Qx z (pI S Q)) args s 0 0 (own z)) (0) (0) 41 [(0, .ref (v0)), (1, .int (v1)), (2, .int (v2)), (3, .int (v3)), (4, .int (v4)), (5, .int (v5)), (6, .int (v6))] [] (S) := by
  refine G_iload (pc := 41) C 6 dX12_lesser_41 rfl ?_
  refine G_aload_n (pc := 43) C 0 dX12_lesser_43 rfl rfl ?_
  obtain ⟨hk, hw⟩ := hw
  refine gf_RX12_7 (pc := 44) C dX12_lesser_44 hk ?_
  refine G_iconst (pc := 47) C (v := 2) dX12_lesser_47 (by decide) ?_
  obtain ⟨b4, hq, hw⟩ := hw
  rw [hq]
  obtain ⟨hk, hi, hw⟩ := hw
  refine G_iald (pc := 48) C hk hi dX12_lesser_48 ?_
  refine G_icmp_ge (pc := 49) C 90 dX12_lesser_49 (by decide) (fun hc => ?_) (fun hc => ?_)
  · have hw := hw.1 hc
    refine G_aload_n (pc := 90) C 0 dX12_lesser_90 rfl rfl ?_
    refine G_iload (pc := 91) C 4 dX12_lesser_91 rfl ?_
    obtain ⟨hk, hw⟩ := hw
    refine cl_RX12_46 (pc := 93) C (c_X12_lengthOf l z (v0) (v4) S _ hw) ⟨Nat.le_of_ble_eq_true rfl, Nat.le_of_ble_eq_true rfl⟩ hk dX12_lesser_93 (Nat.le_of_ble_eq_true rfl) (fun v S' hp => ?_)
    clear hw
    obtain ⟨hS, e5, rfl, hw⟩ := hp
    subst S'
    refine G_iload_n (pc := 96) C 1 dX12_lesser_96 rfl rfl ?_
    refine G_icmp_gt (pc := 97) C 112 dX12_lesser_97 (by decide) (fun hc => ?_) (fun hc => ?_)
    · have hw := hw.1 hc
      exact G_sub [0, 1, 2, 3, 4] rfl (g_X12_lesser_112 C hK22 hw)
    · have hw := hw.2 hc
      refine G_iload (pc := 100) C 5 dX12_lesser_100 rfl ?_
      refine G_iload_n (pc := 102) C 3 dX12_lesser_102 rfl rfl ?_
      refine G_icmp_lt (pc := 103) C 112 dX12_lesser_103 (by decide) (fun hc => ?_) (fun hc => ?_)
      · have hw := hw.1 hc
        exact G_sub [0, 1, 2, 3, 4] rfl (g_X12_lesser_112 C hK22 hw)
      · have hw := hw.2 hc
        refine G_iload (pc := 106) C 5 dX12_lesser_106 rfl ?_
        refine G_istore_n (pc := 108) C [(3, .int (v5)), (0, .ref (v0)), (1, .int (v1)), (2, .int (v2)), (4, .int (v4)), (5, .int (v5)), (6, .int (v6))] dX12_lesser_108 rfl (by decide) rfl ?_
        refine G_iload (pc := 109) C 4 dX12_lesser_109 rfl ?_
        refine G_istore_n (pc := 111) C [(2, .int (v4)), (3, .int (v5)), (0, .ref (v0)), (1, .int (v1)), (4, .int (v4)), (5, .int (v5)), (6, .int (v6))] dX12_lesser_111 rfl (by decide) rfl ?_
        exact G_sub [2, 3, 0, 1, 4] rfl (g_X12_lesser_112 C hK22 hw)
  · have hw := hw.2 hc
    refine G_iload (pc := 52) C 5 dX12_lesser_52 rfl ?_
    refine G_iload (pc := 54) C 4 dX12_lesser_54 rfl ?_
    refine G_iload (pc := 56) C 6 dX12_lesser_56 rfl ?_
    refine G_ishr (pc := 58) C dX12_lesser_58 ?_
    refine G_iconst (pc := 59) C (v := 1) dX12_lesser_59 (by decide) ?_
    refine G_iand (pc := 60) C dX12_lesser_60 ?_
    refine G_iconst (pc := 61) C (v := 1) dX12_lesser_61 (by decide) ?_
    refine G_icmp_ne (pc := 62) C 80 dX12_lesser_62 (by decide) (fun hc => ?_) (fun hc => ?_)
    · have hw := hw.1 hc
      refine G_iconst (pc := 80) C (v := 0) dX12_lesser_80 (by decide) ?_
      exact G_sub [0, 1, 2, 3, 4, 6] rfl (g_X12_lesser_81 C hK22 hK41 hw)
    · have hw := hw.2 hc
      refine G_aload_n (pc := 65) C 0 dX12_lesser_65 rfl rfl ?_
      obtain ⟨hk, hw⟩ := hw
      refine gf_RX12_7 (pc := 66) C dX12_lesser_66 hk ?_
      refine G_iload (pc := 69) C 6 dX12_lesser_69 rfl ?_
      obtain ⟨b12, hq, hw⟩ := hw
      rw [hq]
      refine cl_RX12_35 (pc := 71) C (c_X12_at l z (v6) S _ hw) ⟨Nat.le_of_ble_eq_true rfl, Nat.le_of_ble_eq_true rfl⟩ dX12_lesser_71 (Nat.le_of_ble_eq_true rfl) (fun v S' hp => ?_)
      clear hw
      obtain ⟨hS, e10, rfl, hw⟩ := hp
      subst S'
      refine G_iconst (pc := 74) C (v := 2) dX12_lesser_74 (by decide) ?_
      refine G_iadd (pc := 75) C dX12_lesser_75 ?_
      obtain ⟨hk, hi, hw⟩ := hw
      refine G_iald (pc := 76) C hk hi dX12_lesser_76 ?_
      refine G_goto (pc := 77) C 81 dX12_lesser_77 (by decide) ?_
      exact G_sub [0, 1, 2, 3, 4, 6] rfl (g_X12_lesser_81 C hK22 hK41 hw)
set_option maxHeartbeats 4000000 in
set_option maxRecDepth 100000 in
theorem g_X12_lesser_41 (C : Cx p s m args meth c z cX12_lesser 7 RX12 (some .int) "lesser") {K22 : Int32 → Int32 → Int32 → Prop} {Q : Int32 → Prop} {v0 : Nat} {v1 : Int32} {v2 : Int32} {v3 : Int32} {v4 : Int32} {v5 : Int32} {v6 : Int32} {S : Hp}  (hK22 : ∀ (w2 : Int32) (w3 : Int32) (w4 : Int32), K22 w2 w3 w4 → Go p l e { frames := 3, cells := 0, slots := 0, locals := 65 } s m args below meth c z 7 (MQ below (Qx z (pI S Q)) args s 0 0 (own z)) (0) (0) 22 [(0, .ref (v0)), (1, .int (v1)), (2, .int (w2)), (3, .int (w3)), (4, .int (w4))] [] (S)) (hw : wp_X12_lesser_41 K22 Q v0 v1 v2 v3 v4 v5 v6 S) : Go p l e { frames := 3, cells := 0, slots := 0, locals := 65 } s m args below meth c z 7 (MQ below (Qx z (pI S Q)) args s 0 0 (own z)) (0) (0) 41 [(0, .ref (v0)), (1, .int (v1)), (2, .int (v2)), (3, .int (v3)), (4, .int (v4)), (5, .int (v5)), (6, .int (v6))] [] (S) :=
  Lp_go (G := fun y : Int32 × Int32 => Go p l e { frames := 3, cells := 0, slots := 0, locals := 65 } s m args below meth c z 7 (MQ below (Qx z (pI S Q)) args s 0 0 (own z)) (0) (0) 41 [(0, .ref (v0)), (1, .int (v1)), (2, .int (v2)), (3, .int (v3)), (4, .int (v4)), (5, .int (y.1)), (6, .int (y.2))] [] (S)) (fun K y hK hB => gb_X12_lesser_41 C hK22 (fun w0 w1 h => hK (w0, w1) h) hB) hw
set_option maxHeartbeats 4000000 in
set_option maxRecDepth 100000 in
theorem gb_X12_lesser_22 (C : Cx p s m args meth c z cX12_lesser 7 RX12 (some .int) "lesser") {K22 : Int32 → Int32 → Int32 → Prop} {Q : Int32 → Prop} {v0 : Nat} {v1 : Int32} {v2 : Int32} {v3 : Int32} {v4 : Int32} {S : Hp}  (hK22 : ∀ (w2 : Int32) (w3 : Int32) (w4 : Int32), K22 w2 w3 w4 → Go p l e { frames := 3, cells := 0, slots := 0, locals := 65 } s m args below meth c z 7 (MQ below (Qx z (pI S Q)) args s 0 0 (own z)) (0) (0) 22 [(0, .ref (v0)), (1, .int (v1)), (2, .int (w2)), (3, .int (w3)), (4, .int (w4))] [] (S)) (hw : wb_X12_lesser_22  K22 Q v0 v1 v2 v3 v4 S) : Go p l e { frames := 3, cells := 0, slots := 0, locals := 65 } s m args below meth c z 7 (MQ below (Qx z (pI S Q)) args s 0 0 (own z)) (0) (0) 22 [(0, .ref (v0)), (1, .int (v1)), (2, .int (v2)), (3, .int (v3)), (4, .int (v4))] [] (S) := by
  refine G_iload (pc := 22) C 4 dX12_lesser_22 rfl ?_
  refine G_iconst (pc := 24) C (v := 1) dX12_lesser_24 (by decide) ?_
  refine G_aload_n (pc := 25) C 0 dX12_lesser_25 rfl rfl ?_
  obtain ⟨hk, hw⟩ := hw
  refine gf_RX12_7 (pc := 26) C dX12_lesser_26 hk ?_
  refine G_iconst (pc := 29) C (v := 2) dX12_lesser_29 (by decide) ?_
  obtain ⟨b3, hq, hw⟩ := hw
  rw [hq]
  obtain ⟨hk, hi, hw⟩ := hw
  refine G_iald (pc := 30) C hk hi dX12_lesser_30 ?_
  refine G_ishl (pc := 31) C dX12_lesser_31 ?_
  refine G_icmp_ge (pc := 32) C 118 dX12_lesser_32 (by decide) (fun hc => ?_) (fun hc => ?_)
  · have hw := hw.1 hc
    refine G_iload_n (pc := 118) C 2 dX12_lesser_118 rfl rfl ?_
    exact G_iret (pc := 119) C rfl dX12_lesser_119 ⟨rfl, _, rfl, hw⟩
  · have hw := hw.2 hc
    refine G_iconst (pc := 35) C (v := 0) dX12_lesser_35 (by decide) ?_
    refine G_istore (pc := 36) C [(5, .int ((0 : Int32))), (0, .ref (v0)), (1, .int (v1)), (2, .int (v2)), (3, .int (v3)), (4, .int (v4))] dX12_lesser_36 (by decide) rfl ?_
    refine G_iconst (pc := 38) C (v := 0) dX12_lesser_38 (by decide) ?_
    refine G_istore (pc := 39) C [(6, .int ((0 : Int32))), (5, .int ((0 : Int32))), (0, .ref (v0)), (1, .int (v1)), (2, .int (v2)), (3, .int (v3)), (4, .int (v4))] dX12_lesser_39 (by decide) rfl ?_
    exact G_sub [2, 3, 4, 5, 6, 1, 0] rfl (g_X12_lesser_41 C hK22 hw)
set_option maxHeartbeats 4000000 in
set_option maxRecDepth 100000 in
theorem g_X12_lesser_22 (C : Cx p s m args meth c z cX12_lesser 7 RX12 (some .int) "lesser")  {Q : Int32 → Prop} {v0 : Nat} {v1 : Int32} {v2 : Int32} {v3 : Int32} {v4 : Int32} {S : Hp}   (hw : wp_X12_lesser_22  Q v0 v1 v2 v3 v4 S) : Go p l e { frames := 3, cells := 0, slots := 0, locals := 65 } s m args below meth c z 7 (MQ below (Qx z (pI S Q)) args s 0 0 (own z)) (0) (0) 22 [(0, .ref (v0)), (1, .int (v1)), (2, .int (v2)), (3, .int (v3)), (4, .int (v4))] [] (S) :=
  Lp_go (G := fun y : Int32 × Int32 × Int32 => Go p l e { frames := 3, cells := 0, slots := 0, locals := 65 } s m args below meth c z 7 (MQ below (Qx z (pI S Q)) args s 0 0 (own z)) (0) (0) 22 [(0, .ref (v0)), (1, .int (v1)), (2, .int (y.1)), (3, .int (y.2.1)), (4, .int (y.2.2))] [] (S)) (fun K y hK hB => gb_X12_lesser_22 C  (fun w0 w1 w2 h => hK (w0, w1, w2) h) hB) hw
set_option maxHeartbeats 4000000 in
set_option maxRecDepth 100000 in
theorem c_X12_lesser (l : Launch) (z : Zt) (a0 : Nat) (x1 : Int32) (S : Hp) (Q : Int32 → Prop) (hw : wp_X12_lesser a0 x1 S Q) : Ct l z yX12_lesser cX12_lesser 7 (some .int) 3 65 0 0 [.ref (a0), .int (x1)] S (pI S Q) := by
  refine Ct_of (by decide) (Nat.le_of_ble_eq_true rfl) ?_
  intro p e s m args below meth c C
  have C : Cx p s m args meth c z cX12_lesser 7 RX12 (some .int) "lesser" := C
  refine G_sub (lv' := [(0, .ref (a0)), (1, .int (x1))]) [0, 1] rfl ?_
  refine G_iload_n (pc := 0) C 1 dX12_lesser_0 rfl rfl ?_
  refine G_i2l (pc := 1) C dX12_lesser_1 ?_
  refine G_lconst (pc := 2) C (v := 0) dX12_lesser_2 (by decide) ?_
  refine G_ldc2 (pc := 3) C kl_RX12_128 dX12_lesser_3 ?_
  refine cl_RX12_31 (pc := 6) C (c_X12_in l z ((x1).toInt64) ((0 : Int64)) ((40 : Int64)) S _ hw) ⟨Nat.le_of_ble_eq_true rfl, Nat.le_of_ble_eq_true rfl⟩ dX12_lesser_6 (Nat.le_of_ble_eq_true rfl) (fun v S' hp => ?_)
  clear hw
  obtain ⟨hS, e1, rfl, hw⟩ := hp
  subst S'
  refine G_if_ne (pc := 9) C 15 dX12_lesser_9 (by decide) (fun hc => ?_) (fun hc => ?_)
  · have hw := hw.1 hc
    refine G_iconst (pc := 15) C (v := 0) dX12_lesser_15 (by decide) ?_
    refine G_istore_n (pc := 16) C [(2, .int ((0 : Int32))), (0, .ref (a0)), (1, .int (x1))] dX12_lesser_16 rfl (by decide) rfl ?_
    refine G_iconst (pc := 17) C (v := -1) dX12_lesser_17 (by decide) ?_
    refine G_istore_n (pc := 18) C [(3, .int ((-1 : Int32))), (2, .int ((0 : Int32))), (0, .ref (a0)), (1, .int (x1))] dX12_lesser_18 rfl (by decide) rfl ?_
    refine G_iconst (pc := 19) C (v := 0) dX12_lesser_19 (by decide) ?_
    refine G_istore (pc := 20) C [(4, .int ((0 : Int32))), (3, .int ((-1 : Int32))), (2, .int ((0 : Int32))), (0, .ref (a0)), (1, .int (x1))] dX12_lesser_20 (by decide) rfl ?_
    exact G_sub [3, 4, 2, 1, 0] rfl (g_X12_lesser_22 C  hw)
  · have hw := hw.2 hc
    refine G_bipush (pc := 12) C (v := -3) dX12_lesser_12 (by decide) ?_
    exact G_iret (pc := 14) C rfl dX12_lesser_14 ⟨rfl, _, rfl, hw⟩
/-! FirstPartsModel.weights()I -/
abbrev wb_X12_weights_4  (K4 : Int32 → Int32 → Prop) (Q : Int32 → Prop) (v0 : Nat) (v1 : Int32) (v2 : Int32) (S : Hp) : Prop :=
  kd S v0 = 13 ∧ ∃ b1, (gR S 193 v0 0) = some b1 ∧ kd S b1 = 20 ∧ vp_in (2 : Int32) (ln S b1) ∧ (((gI S 0 b1 ((2 : Int32)).toNatClampNeg) ≤ v2 → Q v1) ∧ (¬ (gI S 0 b1 ((2 : Int32)).toNatClampNeg) ≤ v2 → kd S v0 = 13 ∧ ∃ b4, (gR S 193 v0 0) = some b4 ∧ wp_X12_at (v2) S (fun e2 => kd S b4 = 20 ∧ vp_in (e2 + (2 : Int32)) (ln S b4) ∧ kd S v0 = 13 ∧ ∃ b7, (gR S 193 v0 0) = some b7 ∧ wp_X12_at (v2) S (fun e5 => kd S b7 = 20 ∧ vp_in (e5 + (1 : Int32)) (ln S b7) ∧ ∀ e8 : Int32, e8 = (v1 + ((gI S 0 b4 ((e2 + (2 : Int32))).toNatClampNeg) * (gI S 0 b7 ((e5 + (1 : Int32))).toNatClampNeg))) → ∀ e9 : Int32, e9 = (v2 + 1) → K4 (e8) (e9)))))
abbrev wp_X12_weights_4  (Q : Int32 → Prop) (v0 : Nat) (v1 : Int32) (v2 : Int32) (S : Hp) : Prop :=
  Lp (X := Int32 × Int32) (fun K y => wb_X12_weights_4  (fun w0 w1 => K (w0, w1)) Q v0 y.1 y.2 S) (v1, v2)
abbrev wp_X12_weights (a0 : Nat) (S : Hp) (Q : Int32 → Prop) : Prop :=
  wp_X12_weights_4 Q (a0) ((0 : Int32)) ((0 : Int32)) (S)
set_option maxHeartbeats 4000000 in
set_option maxRecDepth 100000 in
theorem gb_X12_weights_4 (C : Cx p s m args meth c z cX12_weights 3 RX12 (some .int) "weights") {K4 : Int32 → Int32 → Prop} {Q : Int32 → Prop} {v0 : Nat} {v1 : Int32} {v2 : Int32} {S : Hp}  (hK4 : ∀ (w1 : Int32) (w2 : Int32), K4 w1 w2 → Go p l e { frames := 1, cells := 0, slots := 0, locals := 20 } s m args below meth c z 3 (MQ below (Qx z (pI S Q)) args s 0 0 (own z)) (0) (0) 4 [(0, .ref (v0)), (1, .int (w1)), (2, .int (w2))] [] (S)) (hw : wb_X12_weights_4  K4 Q v0 v1 v2 S) : Go p l e { frames := 1, cells := 0, slots := 0, locals := 20 } s m args below meth c z 3 (MQ below (Qx z (pI S Q)) args s 0 0 (own z)) (0) (0) 4 [(0, .ref (v0)), (1, .int (v1)), (2, .int (v2))] [] (S) := by
  refine G_iload_n (pc := 4) C 2 dX12_weights_4 rfl rfl ?_
  refine G_aload_n (pc := 5) C 0 dX12_weights_5 rfl rfl ?_
  obtain ⟨hk, hw⟩ := hw
  refine gf_RX12_7 (pc := 6) C dX12_weights_6 hk ?_
  refine G_iconst (pc := 9) C (v := 2) dX12_weights_9 (by decide) ?_
  obtain ⟨b1, hq, hw⟩ := hw
  rw [hq]
  obtain ⟨hk, hi, hw⟩ := hw
  refine G_iald (pc := 10) C hk hi dX12_weights_10 ?_
  refine G_icmp_ge (pc := 11) C 46 dX12_weights_11 (by decide) (fun hc => ?_) (fun hc => ?_)
  · have hw := hw.1 hc
    refine G_iload_n (pc := 46) C 1 dX12_weights_46 rfl rfl ?_
    exact G_iret (pc := 47) C rfl dX12_weights_47 ⟨rfl, _, rfl, hw⟩
  · have hw := hw.2 hc
    refine G_iload_n (pc := 14) C 1 dX12_weights_14 rfl rfl ?_
    refine G_aload_n (pc := 15) C 0 dX12_weights_15 rfl rfl ?_
    obtain ⟨hk, hw⟩ := hw
    refine gf_RX12_7 (pc := 16) C dX12_weights_16 hk ?_
    refine G_iload_n (pc := 19) C 2 dX12_weights_19 rfl rfl ?_
    obtain ⟨b4, hq, hw⟩ := hw
    rw [hq]
    refine cl_RX12_35 (pc := 20) C (c_X12_at l z (v2) S _ hw) ⟨Nat.le_of_ble_eq_true rfl, Nat.le_of_ble_eq_true rfl⟩ dX12_weights_20 (Nat.le_of_ble_eq_true rfl) (fun v S' hp => ?_)
    clear hw
    obtain ⟨hS, e2, rfl, hw⟩ := hp
    subst S'
    refine G_iconst (pc := 23) C (v := 2) dX12_weights_23 (by decide) ?_
    refine G_iadd (pc := 24) C dX12_weights_24 ?_
    obtain ⟨hk, hi, hw⟩ := hw
    refine G_iald (pc := 25) C hk hi dX12_weights_25 ?_
    refine G_aload_n (pc := 26) C 0 dX12_weights_26 rfl rfl ?_
    obtain ⟨hk, hw⟩ := hw
    refine gf_RX12_7 (pc := 27) C dX12_weights_27 hk ?_
    refine G_iload_n (pc := 30) C 2 dX12_weights_30 rfl rfl ?_
    obtain ⟨b7, hq, hw⟩ := hw
    rw [hq]
    refine cl_RX12_35 (pc := 31) C (c_X12_at l z (v2) S _ hw) ⟨Nat.le_of_ble_eq_true rfl, Nat.le_of_ble_eq_true rfl⟩ dX12_weights_31 (Nat.le_of_ble_eq_true rfl) (fun v S' hp => ?_)
    clear hw
    obtain ⟨hS, e5, rfl, hw⟩ := hp
    subst S'
    refine G_iconst (pc := 34) C (v := 1) dX12_weights_34 (by decide) ?_
    refine G_iadd (pc := 35) C dX12_weights_35 ?_
    obtain ⟨hk, hi, hw⟩ := hw
    refine G_iald (pc := 36) C hk hi dX12_weights_36 ?_
    refine G_imul (pc := 37) C dX12_weights_37 ?_
    refine G_iadd (pc := 38) C dX12_weights_38 ?_
    refine G_topi (fun e8 he8 => ?_)
    have hw := hw e8 he8
    clear he8
    refine G_istore_n (pc := 39) C [(1, .int (e8)), (0, .ref (v0)), (2, .int (v2))] dX12_weights_39 rfl (by decide) rfl ?_
    obtain ⟨e9, he9⟩ : ∃ y : Int32, y = (v2 + 1) := ⟨_, rfl⟩
    have hw := hw e9 he9
    refine G_iinc (pc := 40) C [(2, .int (e9)), (1, .int (e8)), (0, .ref (v0))] 2 (v := e9) dX12_weights_40 rfl (by rw [he9]; rfl) (by decide) rfl ?_
    clear he9
    refine G_goto (pc := 43) C 4 dX12_weights_43 (by decide) ?_
    exact G_sub [2, 1, 0] rfl (hK4 _ _ hw)
set_option maxHeartbeats 4000000 in
set_option maxRecDepth 100000 in
theorem g_X12_weights_4 (C : Cx p s m args meth c z cX12_weights 3 RX12 (some .int) "weights")  {Q : Int32 → Prop} {v0 : Nat} {v1 : Int32} {v2 : Int32} {S : Hp}   (hw : wp_X12_weights_4  Q v0 v1 v2 S) : Go p l e { frames := 1, cells := 0, slots := 0, locals := 20 } s m args below meth c z 3 (MQ below (Qx z (pI S Q)) args s 0 0 (own z)) (0) (0) 4 [(0, .ref (v0)), (1, .int (v1)), (2, .int (v2))] [] (S) :=
  Lp_go (G := fun y : Int32 × Int32 => Go p l e { frames := 1, cells := 0, slots := 0, locals := 20 } s m args below meth c z 3 (MQ below (Qx z (pI S Q)) args s 0 0 (own z)) (0) (0) 4 [(0, .ref (v0)), (1, .int (y.1)), (2, .int (y.2))] [] (S)) (fun K y hK hB => gb_X12_weights_4 C  (fun w0 w1 h => hK (w0, w1) h) hB) hw
set_option maxHeartbeats 4000000 in
set_option maxRecDepth 100000 in
theorem c_X12_weights (l : Launch) (z : Zt) (a0 : Nat) (S : Hp) (Q : Int32 → Prop) (hw : wp_X12_weights a0 S Q) : Ct l z yX12_weights cX12_weights 3 (some .int) 1 20 0 0 [.ref (a0)] S (pI S Q) := by
  refine Ct_of (by decide) (Nat.le_of_ble_eq_true rfl) ?_
  intro p e s m args below meth c C
  have C : Cx p s m args meth c z cX12_weights 3 RX12 (some .int) "weights" := C
  refine G_sub (lv' := [(0, .ref (a0))]) [0] rfl ?_
  refine G_iconst (pc := 0) C (v := 0) dX12_weights_0 (by decide) ?_
  refine G_istore_n (pc := 1) C [(1, .int ((0 : Int32))), (0, .ref (a0))] dX12_weights_1 rfl (by decide) rfl ?_
  refine G_iconst (pc := 2) C (v := 0) dX12_weights_2 (by decide) ?_
  refine G_istore_n (pc := 3) C [(2, .int ((0 : Int32))), (1, .int ((0 : Int32))), (0, .ref (a0))] dX12_weights_3 rfl (by decide) rfl ?_
  exact G_sub [2, 1, 0] rfl (g_X12_weights_4 C  hw)
/-! FirstPartsModel.lostMany()I -/
abbrev wb_X12_lostMany_4  (K4 : Int32 → Int32 → Prop) (Q : Int32 → Prop) (v0 : Nat) (v1 : Int32) (v2 : Int32) (S : Hp) : Prop :=
  kd S v0 = 13 ∧ ∃ b1, (gR S 193 v0 0) = some b1 ∧ kd S b1 = 20 ∧ vp_in (94 : Int32) (ln S b1) ∧ (((gI S 0 b1 ((94 : Int32)).toNatClampNeg) ≤ v2 → Q v1) ∧ (¬ (gI S 0 b1 ((94 : Int32)).toNatClampNeg) ≤ v2 → kd S v0 = 13 ∧ ∃ b2, (gR S 193 v0 0) = some b2 ∧ kd S b2 = 20 ∧ vp_in ((114 : Int32) + v2) (ln S b2) ∧ ∀ e3 : Int32, e3 = (v1 + (gI S 0 b2 (((114 : Int32) + v2)).toNatClampNeg)) → ∀ e4 : Int32, e4 = (v2 + 1) → K4 (e3) (e4)))
abbrev wp_X12_lostMany_4  (Q : Int32 → Prop) (v0 : Nat) (v1 : Int32) (v2 : Int32) (S : Hp) : Prop :=
  Lp (X := Int32 × Int32) (fun K y => wb_X12_lostMany_4  (fun w0 w1 => K (w0, w1)) Q v0 y.1 y.2 S) (v1, v2)
abbrev wp_X12_lostMany (a0 : Nat) (S : Hp) (Q : Int32 → Prop) : Prop :=
  wp_X12_lostMany_4 Q (a0) ((0 : Int32)) ((0 : Int32)) (S)
set_option maxHeartbeats 4000000 in
set_option maxRecDepth 100000 in
theorem gb_X12_lostMany_4 (C : Cx p s m args meth c z cX12_lostMany 3 RX12 (some .int) "lostMany") {K4 : Int32 → Int32 → Prop} {Q : Int32 → Prop} {v0 : Nat} {v1 : Int32} {v2 : Int32} {S : Hp}  (hK4 : ∀ (w1 : Int32) (w2 : Int32), K4 w1 w2 → Go p l e { frames := 0, cells := 0, slots := 0, locals := 0 } s m args below meth c z 3 (MQ below (Qx z (pI S Q)) args s 0 0 (own z)) (0) (0) 4 [(0, .ref (v0)), (1, .int (w1)), (2, .int (w2))] [] (S)) (hw : wb_X12_lostMany_4  K4 Q v0 v1 v2 S) : Go p l e { frames := 0, cells := 0, slots := 0, locals := 0 } s m args below meth c z 3 (MQ below (Qx z (pI S Q)) args s 0 0 (own z)) (0) (0) 4 [(0, .ref (v0)), (1, .int (v1)), (2, .int (v2))] [] (S) := by
  refine G_iload_n (pc := 4) C 2 dX12_lostMany_4 rfl rfl ?_
  refine G_aload_n (pc := 5) C 0 dX12_lostMany_5 rfl rfl ?_
  obtain ⟨hk, hw⟩ := hw
  refine gf_RX12_7 (pc := 6) C dX12_lostMany_6 hk ?_
  refine G_bipush (pc := 9) C (v := 94) dX12_lostMany_9 (by decide) ?_
  obtain ⟨b1, hq, hw⟩ := hw
  rw [hq]
  obtain ⟨hk, hi, hw⟩ := hw
  refine G_iald (pc := 11) C hk hi dX12_lostMany_11 ?_
  refine G_icmp_ge (pc := 12) C 33 dX12_lostMany_12 (by decide) (fun hc => ?_) (fun hc => ?_)
  · have hw := hw.1 hc
    refine G_iload_n (pc := 33) C 1 dX12_lostMany_33 rfl rfl ?_
    exact G_iret (pc := 34) C rfl dX12_lostMany_34 ⟨rfl, _, rfl, hw⟩
  · have hw := hw.2 hc
    refine G_iload_n (pc := 15) C 1 dX12_lostMany_15 rfl rfl ?_
    refine G_aload_n (pc := 16) C 0 dX12_lostMany_16 rfl rfl ?_
    obtain ⟨hk, hw⟩ := hw
    refine gf_RX12_7 (pc := 17) C dX12_lostMany_17 hk ?_
    refine G_bipush (pc := 20) C (v := 114) dX12_lostMany_20 (by decide) ?_
    refine G_iload_n (pc := 22) C 2 dX12_lostMany_22 rfl rfl ?_
    refine G_iadd (pc := 23) C dX12_lostMany_23 ?_
    obtain ⟨b2, hq, hw⟩ := hw
    rw [hq]
    obtain ⟨hk, hi, hw⟩ := hw
    refine G_iald (pc := 24) C hk hi dX12_lostMany_24 ?_
    refine G_iadd (pc := 25) C dX12_lostMany_25 ?_
    refine G_topi (fun e3 he3 => ?_)
    have hw := hw e3 he3
    clear he3
    refine G_istore_n (pc := 26) C [(1, .int (e3)), (0, .ref (v0)), (2, .int (v2))] dX12_lostMany_26 rfl (by decide) rfl ?_
    obtain ⟨e4, he4⟩ : ∃ y : Int32, y = (v2 + 1) := ⟨_, rfl⟩
    have hw := hw e4 he4
    refine G_iinc (pc := 27) C [(2, .int (e4)), (1, .int (e3)), (0, .ref (v0))] 2 (v := e4) dX12_lostMany_27 rfl (by rw [he4]; rfl) (by decide) rfl ?_
    clear he4
    refine G_goto (pc := 30) C 4 dX12_lostMany_30 (by decide) ?_
    exact G_sub [2, 1, 0] rfl (hK4 _ _ hw)
set_option maxHeartbeats 4000000 in
set_option maxRecDepth 100000 in
theorem g_X12_lostMany_4 (C : Cx p s m args meth c z cX12_lostMany 3 RX12 (some .int) "lostMany")  {Q : Int32 → Prop} {v0 : Nat} {v1 : Int32} {v2 : Int32} {S : Hp}   (hw : wp_X12_lostMany_4  Q v0 v1 v2 S) : Go p l e { frames := 0, cells := 0, slots := 0, locals := 0 } s m args below meth c z 3 (MQ below (Qx z (pI S Q)) args s 0 0 (own z)) (0) (0) 4 [(0, .ref (v0)), (1, .int (v1)), (2, .int (v2))] [] (S) :=
  Lp_go (G := fun y : Int32 × Int32 => Go p l e { frames := 0, cells := 0, slots := 0, locals := 0 } s m args below meth c z 3 (MQ below (Qx z (pI S Q)) args s 0 0 (own z)) (0) (0) 4 [(0, .ref (v0)), (1, .int (y.1)), (2, .int (y.2))] [] (S)) (fun K y hK hB => gb_X12_lostMany_4 C  (fun w0 w1 h => hK (w0, w1) h) hB) hw
set_option maxHeartbeats 4000000 in
set_option maxRecDepth 100000 in
theorem c_X12_lostMany (l : Launch) (z : Zt) (a0 : Nat) (S : Hp) (Q : Int32 → Prop) (hw : wp_X12_lostMany a0 S Q) : Ct l z yX12_lostMany cX12_lostMany 3 (some .int) 0 0 0 0 [.ref (a0)] S (pI S Q) := by
  refine Ct_of (by decide) (Nat.le_of_ble_eq_true rfl) ?_
  intro p e s m args below meth c C
  have C : Cx p s m args meth c z cX12_lostMany 3 RX12 (some .int) "lostMany" := C
  refine G_sub (lv' := [(0, .ref (a0))]) [0] rfl ?_
  refine G_iconst (pc := 0) C (v := 0) dX12_lostMany_0 (by decide) ?_
  refine G_istore_n (pc := 1) C [(1, .int ((0 : Int32))), (0, .ref (a0))] dX12_lostMany_1 rfl (by decide) rfl ?_
  refine G_iconst (pc := 2) C (v := 0) dX12_lostMany_2 (by decide) ?_
  refine G_istore_n (pc := 3) C [(2, .int ((0 : Int32))), (1, .int ((0 : Int32))), (0, .ref (a0))] dX12_lostMany_3 rfl (by decide) rfl ?_
  exact G_sub [2, 1, 0] rfl (g_X12_lostMany_4 C  hw)
/-! FirstPartsModel.inState(I)I -/
abbrev wp_X12_inState_30 (K4 : Int32 → Int32 → Hp → Prop) (Q : Int32 → Hp → Prop) (v0 : Nat) (v1 : Int32) (v3 : Int32) (s0 : Int32) (s1 : Int32) (S : Hp) : Prop :=
  ∀ e4 : Int32, e4 = (s1 + s0) → ∀ e5 : Int32, e5 = (v3 + 1) → K4 (e4) (e5) (S)
abbrev wb_X12_inState_4  (K4 : Int32 → Int32 → Hp → Prop) (Q : Int32 → Hp → Prop) (v0 : Nat) (v1 : Int32) (v2 : Int32) (v3 : Int32) (S : Hp) : Prop :=
  kd S v0 = 13 ∧ ∃ b1, (gR S 193 v0 0) = some b1 ∧ kd S b1 = 20 ∧ vp_in (93 : Int32) (ln S b1) ∧ (((gI S 0 b1 ((93 : Int32)).toNatClampNeg) ≤ v3 → Q v2 S) ∧ (¬ (gI S 0 b1 ((93 : Int32)).toNatClampNeg) ≤ v3 → kd S v0 = 13 ∧ wp_X12_stateOf (v0) (v3) S (fun e2 S3 => ((e2 ≠ v1 → wp_X12_inState_30 K4 Q (v0) (v1) (v3) ((0 : Int32)) (v2) (S3)) ∧ (e2 = v1 → wp_X12_inState_30 K4 Q (v0) (v1) (v3) ((1 : Int32)) (v2) (S3))))))
abbrev wp_X12_inState_4  (Q : Int32 → Hp → Prop) (v0 : Nat) (v1 : Int32) (v2 : Int32) (v3 : Int32) (S : Hp) : Prop :=
  Lp (X := Int32 × Int32 × Hp) (fun K y => wb_X12_inState_4  (fun w0 w1 w2 => K (w0, w1, w2)) Q v0 v1 y.1 y.2.1 y.2.2) (v2, v3, S)
abbrev wp_X12_inState (a0 : Nat) (x1 : Int32) (S : Hp) (Q : Int32 → Hp → Prop) : Prop :=
  wp_X12_inState_4 Q (a0) (x1) ((0 : Int32)) ((0 : Int32)) (S)
set_option maxHeartbeats 4000000 in
set_option maxRecDepth 100000 in
theorem g_X12_inState_30 (C : Cx p s m args meth c z cX12_inState 4 RX12 (some .int) "inState") {K4 : Int32 → Int32 → Hp → Prop} {Q : Int32 → Hp → Prop} {v0 : Nat} {v1 : Int32} {v3 : Int32} {s0 : Int32} {s1 : Int32} {S : Hp}  (hK4 : ∀ (w2 : Int32) (w3 : Int32) (S2 : Hp), K4 w2 w3 S2 → Go p l e { frames := 5, cells := 0, slots := 0, locals := 120 } s m args below meth c z 4 (MQ below (Qx z (wI Q)) args s 0 0 (own z)) (0) (0) 4 [(0, .ref (v0)), (1, .int (v1)), (2, .int (w2)), (3, .int (w3))] [] (S2)) (hw : wp_X12_inState_30 K4 Q v0 v1 v3 s0 s1 S) : Go p l e { frames := 5, cells := 0, slots := 0, locals := 120 } s m args below meth c z 4 (MQ below (Qx z (wI Q)) args s 0 0 (own z)) (0) (0) 30 [(0, .ref (v0)), (1, .int (v1)), (3, .int (v3))] [.int (s0), .int (s1)] (S) := by
  refine G_iadd (pc := 30) C dX12_inState_30 ?_
  refine G_topi (fun e4 he4 => ?_)
  have hw := hw e4 he4
  clear he4
  refine G_istore_n (pc := 31) C [(2, .int (e4)), (0, .ref (v0)), (1, .int (v1)), (3, .int (v3))] dX12_inState_31 rfl (by decide) rfl ?_
  obtain ⟨e5, he5⟩ : ∃ y : Int32, y = (v3 + 1) := ⟨_, rfl⟩
  have hw := hw e5 he5
  refine G_iinc (pc := 32) C [(3, .int (e5)), (2, .int (e4)), (0, .ref (v0)), (1, .int (v1))] 3 (v := e5) dX12_inState_32 rfl (by rw [he5]; rfl) (by decide) rfl ?_
  clear he5
  refine G_goto (pc := 35) C 4 dX12_inState_35 (by decide) ?_
  exact G_sub [2, 3, 1, 0] rfl (hK4 _ _ _ hw)
set_option maxHeartbeats 4000000 in
set_option maxRecDepth 100000 in
theorem gb_X12_inState_4 (C : Cx p s m args meth c z cX12_inState 4 RX12 (some .int) "inState") {K4 : Int32 → Int32 → Hp → Prop} {Q : Int32 → Hp → Prop} {v0 : Nat} {v1 : Int32} {v2 : Int32} {v3 : Int32} {S : Hp}  (hK4 : ∀ (w2 : Int32) (w3 : Int32) (S2 : Hp), K4 w2 w3 S2 → Go p l e { frames := 5, cells := 0, slots := 0, locals := 120 } s m args below meth c z 4 (MQ below (Qx z (wI Q)) args s 0 0 (own z)) (0) (0) 4 [(0, .ref (v0)), (1, .int (v1)), (2, .int (w2)), (3, .int (w3))] [] (S2)) (hw : wb_X12_inState_4  K4 Q v0 v1 v2 v3 S) : Go p l e { frames := 5, cells := 0, slots := 0, locals := 120 } s m args below meth c z 4 (MQ below (Qx z (wI Q)) args s 0 0 (own z)) (0) (0) 4 [(0, .ref (v0)), (1, .int (v1)), (2, .int (v2)), (3, .int (v3))] [] (S) := by
  refine G_iload_n (pc := 4) C 3 dX12_inState_4 rfl rfl ?_
  refine G_aload_n (pc := 5) C 0 dX12_inState_5 rfl rfl ?_
  obtain ⟨hk, hw⟩ := hw
  refine gf_RX12_7 (pc := 6) C dX12_inState_6 hk ?_
  refine G_bipush (pc := 9) C (v := 93) dX12_inState_9 (by decide) ?_
  obtain ⟨b1, hq, hw⟩ := hw
  rw [hq]
  obtain ⟨hk, hi, hw⟩ := hw
  refine G_iald (pc := 11) C hk hi dX12_inState_11 ?_
  refine G_icmp_ge (pc := 12) C 38 dX12_inState_12 (by decide) (fun hc => ?_) (fun hc => ?_)
  · have hw := hw.1 hc
    refine G_iload_n (pc := 38) C 2 dX12_inState_38 rfl rfl ?_
    exact G_iret (pc := 39) C rfl dX12_inState_39 ⟨_, rfl, hw⟩
  · have hw := hw.2 hc
    refine G_iload_n (pc := 15) C 2 dX12_inState_15 rfl rfl ?_
    refine G_aload_n (pc := 16) C 0 dX12_inState_16 rfl rfl ?_
    refine G_iload_n (pc := 17) C 3 dX12_inState_17 rfl rfl ?_
    obtain ⟨hk, hw⟩ := hw
    refine cl_RX12_190 (pc := 18) C (c_X12_stateOf l z (v0) (v3) S _ hw) ⟨Nat.le_of_ble_eq_true rfl, Nat.le_of_ble_eq_true rfl⟩ hk dX12_inState_18 (Nat.le_of_ble_eq_true rfl) (fun v S' hp => ?_)
    clear hw
    obtain ⟨e2, rfl, hw⟩ := hp
    generalize S' = S3 at hw ⊢
    refine G_iload_n (pc := 21) C 1 dX12_inState_21 rfl rfl ?_
    refine G_icmp_ne (pc := 22) C 29 dX12_inState_22 (by decide) (fun hc => ?_) (fun hc => ?_)
    · have hw := hw.1 hc
      refine G_iconst (pc := 29) C (v := 0) dX12_inState_29 (by decide) ?_
      exact G_sub [0, 1, 3] rfl (g_X12_inState_30 C hK4 hw)
    · have hw := hw.2 hc
      refine G_iconst (pc := 25) C (v := 1) dX12_inState_25 (by decide) ?_
      refine G_goto (pc := 26) C 30 dX12_inState_26 (by decide) ?_
      exact G_sub [0, 1, 3] rfl (g_X12_inState_30 C hK4 hw)
set_option maxHeartbeats 4000000 in
set_option maxRecDepth 100000 in
theorem g_X12_inState_4 (C : Cx p s m args meth c z cX12_inState 4 RX12 (some .int) "inState")  {Q : Int32 → Hp → Prop} {v0 : Nat} {v1 : Int32} {v2 : Int32} {v3 : Int32} {S : Hp}   (hw : wp_X12_inState_4  Q v0 v1 v2 v3 S) : Go p l e { frames := 5, cells := 0, slots := 0, locals := 120 } s m args below meth c z 4 (MQ below (Qx z (wI Q)) args s 0 0 (own z)) (0) (0) 4 [(0, .ref (v0)), (1, .int (v1)), (2, .int (v2)), (3, .int (v3))] [] (S) :=
  Lp_go (G := fun y : Int32 × Int32 × Hp => Go p l e { frames := 5, cells := 0, slots := 0, locals := 120 } s m args below meth c z 4 (MQ below (Qx z (wI Q)) args s 0 0 (own z)) (0) (0) 4 [(0, .ref (v0)), (1, .int (v1)), (2, .int (y.1)), (3, .int (y.2.1))] [] (y.2.2)) (fun K y hK hB => gb_X12_inState_4 C  (fun w0 w1 w2 h => hK (w0, w1, w2) h) hB) hw
set_option maxHeartbeats 4000000 in
set_option maxRecDepth 100000 in
theorem c_X12_inState (l : Launch) (z : Zt) (a0 : Nat) (x1 : Int32) (S : Hp) (Q : Int32 → Hp → Prop) (hw : wp_X12_inState a0 x1 S Q) : Ct l z yX12_inState cX12_inState 4 (some .int) 5 120 0 0 [.ref (a0), .int (x1)] S (wI Q) := by
  refine Ct_of (by decide) (Nat.le_of_ble_eq_true rfl) ?_
  intro p e s m args below meth c C
  have C : Cx p s m args meth c z cX12_inState 4 RX12 (some .int) "inState" := C
  refine G_sub (lv' := [(0, .ref (a0)), (1, .int (x1))]) [0, 1] rfl ?_
  refine G_iconst (pc := 0) C (v := 0) dX12_inState_0 (by decide) ?_
  refine G_istore_n (pc := 1) C [(2, .int ((0 : Int32))), (0, .ref (a0)), (1, .int (x1))] dX12_inState_1 rfl (by decide) rfl ?_
  refine G_iconst (pc := 2) C (v := 0) dX12_inState_2 (by decide) ?_
  refine G_istore_n (pc := 3) C [(3, .int ((0 : Int32))), (2, .int ((0 : Int32))), (0, .ref (a0)), (1, .int (x1))] dX12_inState_3 rfl (by decide) rfl ?_
  exact G_sub [2, 3, 1, 0] rfl (g_X12_inState_4 C  hw)
/-! FirstPartsModel.count(I)I -/
abbrev wp_X12_count_116  (Q : Int32 → Hp → Prop) (s0 : Int32) (S : Hp) : Prop :=
  Q s0 S
abbrev wp_X12_count (a0 : Nat) (x1 : Int32) (S : Hp) (Q : Int32 → Hp → Prop) : Prop :=
  ((x1 = 0 → kd S a0 = 13 ∧ ∃ b1, (gR S 193 a0 0) = some b1 ∧ kd S b1 = 20 ∧ vp_in (2 : Int32) (ln S b1) ∧ Q (gI S 0 b1 ((2 : Int32)).toNatClampNeg) S) ∧ (¬ x1 = 0 → ((x1 = 1 → kd S a0 = 13 ∧ ∃ b2, (gR S 193 a0 0) = some b2 ∧ kd S b2 = 20 ∧ vp_in (0 : Int32) (ln S b2) ∧ Q (gI S 0 b2 ((0 : Int32)).toNatClampNeg) S) ∧ (¬ x1 = 1 → ((x1 = 2 → kd S a0 = 13 ∧ ∃ b3, (gR S 193 a0 0) = some b3 ∧ kd S b3 = 20 ∧ vp_in (1 : Int32) (ln S b3) ∧ Q (gI S 0 b3 ((1 : Int32)).toNatClampNeg) S) ∧ (¬ x1 = 2 → ((x1 = 3 → kd S a0 = 13 ∧ wp_X12_lengthOf (a0) ((63 : Int32)) S (fun e4 => Q e4 S)) ∧ (¬ x1 = 3 → ((x1 = 4 → kd S a0 = 13 ∧ wp_X12_isFit (a0) S (fun e6 => ((e6 = 0 → wp_X12_count_116 Q ((0 : Int32)) (S)) ∧ (¬ e6 = 0 → wp_X12_count_116 Q ((1 : Int32)) (S))))) ∧ (¬ x1 = 4 → ((x1 = 5 → kd S a0 = 13 ∧ wp_X12_weights (a0) S (fun e8 => Q e8 S)) ∧ (¬ x1 = 5 → ((x1 = 6 → kd S a0 = 13 ∧ wp_X12_plans (a0) S (fun e10 S11 => Q e10 S11)) ∧ (¬ x1 = 6 → ((x1 = 7 → kd S a0 = 13 ∧ ∃ b12, (gR S 193 a0 0) = some b12 ∧ kd S b12 = 20 ∧ vp_in (93 : Int32) (ln S b12) ∧ Q (gI S 0 b12 ((93 : Int32)).toNatClampNeg) S) ∧ (¬ x1 = 7 → ((x1 = 8 → kd S a0 = 13 ∧ ∃ b13, (gR S 193 a0 0) = some b13 ∧ kd S b13 = 20 ∧ vp_in (94 : Int32) (ln S b13) ∧ Q (gI S 0 b13 ((94 : Int32)).toNatClampNeg) S) ∧ (¬ x1 = 8 → ((x1 = 9 → kd S a0 = 13 ∧ ∃ b14, (gR S 193 a0 0) = some b14 ∧ kd S b14 = 20 ∧ vp_in (95 : Int32) (ln S b14) ∧ Q (gI S 0 b14 ((95 : Int32)).toNatClampNeg) S) ∧ (¬ x1 = 9 → ((x1 = 10 → kd S a0 = 13 ∧ wp_X12_lostMany (a0) S (fun e15 => Q e15 S)) ∧ (¬ x1 = 10 → ((x1 = 11 → kd S a0 = 13 ∧ wp_X12_inState (a0) ((0 : Int32)) S (fun e17 S18 => Q e17 S18)) ∧ (¬ x1 = 11 → ((x1 = 12 → kd S a0 = 13 ∧ wp_X12_inState (a0) ((2 : Int32)) S (fun e19 S20 => Q e19 S20)) ∧ (¬ x1 = 12 → ((x1 = 13 → kd S a0 = 13 ∧ Q (gI S 194 a0 0) S) ∧ (¬ x1 = 13 → ((x1 = 14 → kd S a0 = 13 ∧ Q (gI S 196 a0 0) S) ∧ (¬ x1 = 14 → Q (-3 : Int32) S))))))))))))))))))))))))))))))
set_option maxHeartbeats 4000000 in
set_option maxRecDepth 100000 in
theorem g_X12_count_116 (C : Cx p s m args meth c z cX12_count 2 RX12 (some .int) "count")  {Q : Int32 → Hp → Prop} {s0 : Int32} {S : Hp}   (hw : wp_X12_count_116  Q s0 S) : Go p l e { frames := 6, cells := 0, slots := 0, locals := 143 } s m args below meth c z 2 (MQ below (Qx z (wI Q)) args s 0 0 (own z)) (0) (0) 116 [] [.int (s0)] (S) := by
  exact G_iret (pc := 116) C rfl dX12_count_116 ⟨_, rfl, hw⟩
set_option maxHeartbeats 4000000 in
set_option maxRecDepth 100000 in
theorem c_X12_count (l : Launch) (z : Zt) (a0 : Nat) (x1 : Int32) (S : Hp) (Q : Int32 → Hp → Prop) (hw : wp_X12_count a0 x1 S Q) : Ct l z yX12_count cX12_count 2 (some .int) 6 143 0 0 [.ref (a0), .int (x1)] S (wI Q) := by
  refine Ct_of (by decide) (Nat.le_of_ble_eq_true rfl) ?_
  intro p e s m args below meth c C
  have C : Cx p s m args meth c z cX12_count 2 RX12 (some .int) "count" := C
  refine G_sub (lv' := [(0, .ref (a0)), (1, .int (x1))]) [0, 1] rfl ?_
  refine G_iload_n (pc := 0) C 1 dX12_count_0 rfl rfl ?_
  by_cases hc0 : x1 = 0
  · have hw := hw.1 hc0
    refine G_tableIn (pc := 1) C 76 dX12_count_1 (by rw [hc0]; decide) (by rw [hc0]; decide) (off := 75) (by rw [hc0]; rfl) (by decide) ?_
    refine G_aload_n (pc := 76) C 0 dX12_count_76 rfl rfl ?_
    obtain ⟨hk, hw⟩ := hw
    refine gf_RX12_7 (pc := 77) C dX12_count_77 hk ?_
    refine G_iconst (pc := 80) C (v := 2) dX12_count_80 (by decide) ?_
    obtain ⟨b1, hq, hw⟩ := hw
    rw [hq]
    obtain ⟨hk, hi, hw⟩ := hw
    refine G_iald (pc := 81) C hk hi dX12_count_81 ?_
    exact G_iret (pc := 82) C rfl dX12_count_82 ⟨_, rfl, hw⟩
  have hw := hw.2 hc0
  by_cases hc1 : x1 = 1
  · have hw := hw.1 hc1
    refine G_tableIn (pc := 1) C 83 dX12_count_1 (by rw [hc1]; decide) (by rw [hc1]; decide) (off := 82) (by rw [hc1]; rfl) (by decide) ?_
    refine G_aload_n (pc := 83) C 0 dX12_count_83 rfl rfl ?_
    obtain ⟨hk, hw⟩ := hw
    refine gf_RX12_7 (pc := 84) C dX12_count_84 hk ?_
    refine G_iconst (pc := 87) C (v := 0) dX12_count_87 (by decide) ?_
    obtain ⟨b2, hq, hw⟩ := hw
    rw [hq]
    obtain ⟨hk, hi, hw⟩ := hw
    refine G_iald (pc := 88) C hk hi dX12_count_88 ?_
    exact G_iret (pc := 89) C rfl dX12_count_89 ⟨_, rfl, hw⟩
  have hw := hw.2 hc1
  by_cases hc2 : x1 = 2
  · have hw := hw.1 hc2
    refine G_tableIn (pc := 1) C 90 dX12_count_1 (by rw [hc2]; decide) (by rw [hc2]; decide) (off := 89) (by rw [hc2]; rfl) (by decide) ?_
    refine G_aload_n (pc := 90) C 0 dX12_count_90 rfl rfl ?_
    obtain ⟨hk, hw⟩ := hw
    refine gf_RX12_7 (pc := 91) C dX12_count_91 hk ?_
    refine G_iconst (pc := 94) C (v := 1) dX12_count_94 (by decide) ?_
    obtain ⟨b3, hq, hw⟩ := hw
    rw [hq]
    obtain ⟨hk, hi, hw⟩ := hw
    refine G_iald (pc := 95) C hk hi dX12_count_95 ?_
    exact G_iret (pc := 96) C rfl dX12_count_96 ⟨_, rfl, hw⟩
  have hw := hw.2 hc2
  by_cases hc3 : x1 = 3
  · have hw := hw.1 hc3
    refine G_tableIn (pc := 1) C 97 dX12_count_1 (by rw [hc3]; decide) (by rw [hc3]; decide) (off := 96) (by rw [hc3]; rfl) (by decide) ?_
    refine G_aload_n (pc := 97) C 0 dX12_count_97 rfl rfl ?_
    refine G_bipush (pc := 98) C (v := 63) dX12_count_98 (by decide) ?_
    obtain ⟨hk, hw⟩ := hw
    refine cl_RX12_46 (pc := 100) C (c_X12_lengthOf l z (a0) ((63 : Int32)) S _ hw) ⟨Nat.le_of_ble_eq_true rfl, Nat.le_of_ble_eq_true rfl⟩ hk dX12_count_100 (Nat.le_of_ble_eq_true rfl) (fun v S' hp => ?_)
    clear hw
    obtain ⟨hS, e4, rfl, hw⟩ := hp
    subst S'
    exact G_iret (pc := 103) C rfl dX12_count_103 ⟨_, rfl, hw⟩
  have hw := hw.2 hc3
  by_cases hc4 : x1 = 4
  · have hw := hw.1 hc4
    refine G_tableIn (pc := 1) C 104 dX12_count_1 (by rw [hc4]; decide) (by rw [hc4]; decide) (off := 103) (by rw [hc4]; rfl) (by decide) ?_
    refine G_aload_n (pc := 104) C 0 dX12_count_104 rfl rfl ?_
    obtain ⟨hk, hw⟩ := hw
    refine cl_RX12_136 (pc := 105) C (c_X12_isFit l z (a0) S _ hw) ⟨Nat.le_of_ble_eq_true rfl, Nat.le_of_ble_eq_true rfl⟩ hk dX12_count_105 (Nat.le_of_ble_eq_true rfl) (fun v S' hp => ?_)
    clear hw
    obtain ⟨hS, e6, rfl, hw⟩ := hp
    subst S'
    refine G_if_eq (pc := 108) C 115 dX12_count_108 (by decide) (fun hc => ?_) (fun hc => ?_)
    · have hw := hw.1 hc
      refine G_iconst (pc := 115) C (v := 0) dX12_count_115 (by decide) ?_
      exact G_sub [] rfl (g_X12_count_116 C  hw)
    · have hw := hw.2 hc
      refine G_iconst (pc := 111) C (v := 1) dX12_count_111 (by decide) ?_
      refine G_goto (pc := 112) C 116 dX12_count_112 (by decide) ?_
      exact G_sub [] rfl (g_X12_count_116 C  hw)
  have hw := hw.2 hc4
  by_cases hc5 : x1 = 5
  · have hw := hw.1 hc5
    refine G_tableIn (pc := 1) C 117 dX12_count_1 (by rw [hc5]; decide) (by rw [hc5]; decide) (off := 116) (by rw [hc5]; rfl) (by decide) ?_
    refine G_aload_n (pc := 117) C 0 dX12_count_117 rfl rfl ?_
    obtain ⟨hk, hw⟩ := hw
    refine cl_RX12_206 (pc := 118) C (c_X12_weights l z (a0) S _ hw) ⟨Nat.le_of_ble_eq_true rfl, Nat.le_of_ble_eq_true rfl⟩ hk dX12_count_118 (Nat.le_of_ble_eq_true rfl) (fun v S' hp => ?_)
    clear hw
    obtain ⟨hS, e8, rfl, hw⟩ := hp
    subst S'
    exact G_iret (pc := 121) C rfl dX12_count_121 ⟨_, rfl, hw⟩
  have hw := hw.2 hc5
  by_cases hc6 : x1 = 6
  · have hw := hw.1 hc6
    refine G_tableIn (pc := 1) C 122 dX12_count_1 (by rw [hc6]; decide) (by rw [hc6]; decide) (off := 121) (by rw [hc6]; rfl) (by decide) ?_
    refine G_aload_n (pc := 122) C 0 dX12_count_122 rfl rfl ?_
    obtain ⟨hk, hw⟩ := hw
    refine cl_RX12_203 (pc := 123) C (c_X12_plans l z (a0) S _ hw) ⟨Nat.le_of_ble_eq_true rfl, Nat.le_of_ble_eq_true rfl⟩ hk dX12_count_123 (Nat.le_of_ble_eq_true rfl) (fun v S' hp => ?_)
    clear hw
    obtain ⟨e10, rfl, hw⟩ := hp
    generalize S' = S11 at hw ⊢
    exact G_iret (pc := 126) C rfl dX12_count_126 ⟨_, rfl, hw⟩
  have hw := hw.2 hc6
  by_cases hc7 : x1 = 7
  · have hw := hw.1 hc7
    refine G_tableIn (pc := 1) C 127 dX12_count_1 (by rw [hc7]; decide) (by rw [hc7]; decide) (off := 126) (by rw [hc7]; rfl) (by decide) ?_
    refine G_aload_n (pc := 127) C 0 dX12_count_127 rfl rfl ?_
    obtain ⟨hk, hw⟩ := hw
    refine gf_RX12_7 (pc := 128) C dX12_count_128 hk ?_
    refine G_bipush (pc := 131) C (v := 93) dX12_count_131 (by decide) ?_
    obtain ⟨b12, hq, hw⟩ := hw
    rw [hq]
    obtain ⟨hk, hi, hw⟩ := hw
    refine G_iald (pc := 133) C hk hi dX12_count_133 ?_
    exact G_iret (pc := 134) C rfl dX12_count_134 ⟨_, rfl, hw⟩
  have hw := hw.2 hc7
  by_cases hc8 : x1 = 8
  · have hw := hw.1 hc8
    refine G_tableIn (pc := 1) C 135 dX12_count_1 (by rw [hc8]; decide) (by rw [hc8]; decide) (off := 134) (by rw [hc8]; rfl) (by decide) ?_
    refine G_aload_n (pc := 135) C 0 dX12_count_135 rfl rfl ?_
    obtain ⟨hk, hw⟩ := hw
    refine gf_RX12_7 (pc := 136) C dX12_count_136 hk ?_
    refine G_bipush (pc := 139) C (v := 94) dX12_count_139 (by decide) ?_
    obtain ⟨b13, hq, hw⟩ := hw
    rw [hq]
    obtain ⟨hk, hi, hw⟩ := hw
    refine G_iald (pc := 141) C hk hi dX12_count_141 ?_
    exact G_iret (pc := 142) C rfl dX12_count_142 ⟨_, rfl, hw⟩
  have hw := hw.2 hc8
  by_cases hc9 : x1 = 9
  · have hw := hw.1 hc9
    refine G_tableIn (pc := 1) C 143 dX12_count_1 (by rw [hc9]; decide) (by rw [hc9]; decide) (off := 142) (by rw [hc9]; rfl) (by decide) ?_
    refine G_aload_n (pc := 143) C 0 dX12_count_143 rfl rfl ?_
    obtain ⟨hk, hw⟩ := hw
    refine gf_RX12_7 (pc := 144) C dX12_count_144 hk ?_
    refine G_bipush (pc := 147) C (v := 95) dX12_count_147 (by decide) ?_
    obtain ⟨b14, hq, hw⟩ := hw
    rw [hq]
    obtain ⟨hk, hi, hw⟩ := hw
    refine G_iald (pc := 149) C hk hi dX12_count_149 ?_
    exact G_iret (pc := 150) C rfl dX12_count_150 ⟨_, rfl, hw⟩
  have hw := hw.2 hc9
  by_cases hc10 : x1 = 10
  · have hw := hw.1 hc10
    refine G_tableIn (pc := 1) C 151 dX12_count_1 (by rw [hc10]; decide) (by rw [hc10]; decide) (off := 150) (by rw [hc10]; rfl) (by decide) ?_
    refine G_aload_n (pc := 151) C 0 dX12_count_151 rfl rfl ?_
    obtain ⟨hk, hw⟩ := hw
    refine cl_RX12_209 (pc := 152) C (c_X12_lostMany l z (a0) S _ hw) ⟨Nat.le_of_ble_eq_true rfl, Nat.le_of_ble_eq_true rfl⟩ hk dX12_count_152 (Nat.le_of_ble_eq_true rfl) (fun v S' hp => ?_)
    clear hw
    obtain ⟨hS, e15, rfl, hw⟩ := hp
    subst S'
    exact G_iret (pc := 155) C rfl dX12_count_155 ⟨_, rfl, hw⟩
  have hw := hw.2 hc10
  by_cases hc11 : x1 = 11
  · have hw := hw.1 hc11
    refine G_tableIn (pc := 1) C 156 dX12_count_1 (by rw [hc11]; decide) (by rw [hc11]; decide) (off := 155) (by rw [hc11]; rfl) (by decide) ?_
    refine G_aload_n (pc := 156) C 0 dX12_count_156 rfl rfl ?_
    refine G_iconst (pc := 157) C (v := 0) dX12_count_157 (by decide) ?_
    obtain ⟨hk, hw⟩ := hw
    refine cl_RX12_212 (pc := 158) C (c_X12_inState l z (a0) ((0 : Int32)) S _ hw) ⟨Nat.le_of_ble_eq_true rfl, Nat.le_of_ble_eq_true rfl⟩ hk dX12_count_158 (Nat.le_of_ble_eq_true rfl) (fun v S' hp => ?_)
    clear hw
    obtain ⟨e17, rfl, hw⟩ := hp
    generalize S' = S18 at hw ⊢
    exact G_iret (pc := 161) C rfl dX12_count_161 ⟨_, rfl, hw⟩
  have hw := hw.2 hc11
  by_cases hc12 : x1 = 12
  · have hw := hw.1 hc12
    refine G_tableIn (pc := 1) C 162 dX12_count_1 (by rw [hc12]; decide) (by rw [hc12]; decide) (off := 161) (by rw [hc12]; rfl) (by decide) ?_
    refine G_aload_n (pc := 162) C 0 dX12_count_162 rfl rfl ?_
    refine G_iconst (pc := 163) C (v := 2) dX12_count_163 (by decide) ?_
    obtain ⟨hk, hw⟩ := hw
    refine cl_RX12_212 (pc := 164) C (c_X12_inState l z (a0) ((2 : Int32)) S _ hw) ⟨Nat.le_of_ble_eq_true rfl, Nat.le_of_ble_eq_true rfl⟩ hk dX12_count_164 (Nat.le_of_ble_eq_true rfl) (fun v S' hp => ?_)
    clear hw
    obtain ⟨e19, rfl, hw⟩ := hp
    generalize S' = S20 at hw ⊢
    exact G_iret (pc := 167) C rfl dX12_count_167 ⟨_, rfl, hw⟩
  have hw := hw.2 hc12
  by_cases hc13 : x1 = 13
  · have hw := hw.1 hc13
    refine G_tableIn (pc := 1) C 168 dX12_count_1 (by rw [hc13]; decide) (by rw [hc13]; decide) (off := 167) (by rw [hc13]; rfl) (by decide) ?_
    refine G_aload_n (pc := 168) C 0 dX12_count_168 rfl rfl ?_
    obtain ⟨hk, hw⟩ := hw
    refine gf_RX12_108 (pc := 169) C dX12_count_169 hk ?_
    exact G_iret (pc := 172) C rfl dX12_count_172 ⟨_, rfl, hw⟩
  have hw := hw.2 hc13
  by_cases hc14 : x1 = 14
  · have hw := hw.1 hc14
    refine G_tableIn (pc := 1) C 173 dX12_count_1 (by rw [hc14]; decide) (by rw [hc14]; decide) (off := 172) (by rw [hc14]; rfl) (by decide) ?_
    refine G_aload_n (pc := 173) C 0 dX12_count_173 rfl rfl ?_
    obtain ⟨hk, hw⟩ := hw
    refine gf_RX12_51 (pc := 174) C dX12_count_174 hk ?_
    exact G_iret (pc := 177) C rfl dX12_count_177 ⟨_, rfl, hw⟩
  have hw := hw.2 hc14
  refine G_tableOut (pc := 1) C 178 dX12_count_1 (by have k0 := ne_ti hc0 (by decide : (0 : Int32).toInt = 0); have k1 := ne_ti hc1 (by decide : (1 : Int32).toInt = 1); have k2 := ne_ti hc2 (by decide : (2 : Int32).toInt = 2); have k3 := ne_ti hc3 (by decide : (3 : Int32).toInt = 3); have k4 := ne_ti hc4 (by decide : (4 : Int32).toInt = 4); have k5 := ne_ti hc5 (by decide : (5 : Int32).toInt = 5); have k6 := ne_ti hc6 (by decide : (6 : Int32).toInt = 6); have k7 := ne_ti hc7 (by decide : (7 : Int32).toInt = 7); have k8 := ne_ti hc8 (by decide : (8 : Int32).toInt = 8); have k9 := ne_ti hc9 (by decide : (9 : Int32).toInt = 9); have k10 := ne_ti hc10 (by decide : (10 : Int32).toInt = 10); have k11 := ne_ti hc11 (by decide : (11 : Int32).toInt = 11); have k12 := ne_ti hc12 (by decide : (12 : Int32).toInt = 12); have k13 := ne_ti hc13 (by decide : (13 : Int32).toInt = 13); have k14 := ne_ti hc14 (by decide : (14 : Int32).toInt = 14); omega) (by decide) ?_
  refine G_bipush (pc := 178) C (v := -3) dX12_count_178 (by decide) ?_
  exact G_iret (pc := 180) C rfl dX12_count_180 ⟨_, rfl, hw⟩
end W19model3leantxt
