section W17model1leantxt
variable {p : Program} {l : Launch} {e : Env} {R : Room} {s : State} {m : MethodId} {args : Array Value} {below : List Frame} {meth : Method} {c : Code} {z : Zt} {cc : ByteArray} {nL : Nat} {ow : String} {ret : Option FieldType} {nm : String} {Q : State → Prop} {bc bs pc : Nat} {lv : List (Nat × Value)} {st : List Value} {S : Hp}
theorem gf_RX12_7 (C : Cx p s m args meth c z cc nL RX12 ret nm) {a : Nat} (hd : decode cc pc = .ok (.getfield 7, 3)) (hk : kd S a = 13) (k : Go p l e R s m args below meth c z nL Q bc bs (pc + 3) lv (va_rf (gR S 193 a 0) :: st) S) : Go p l e R s m args below meth c z nL Q bc bs pc lv (.ref a :: st) S := G_getR C 12 0 14 rfl rfl (by decide) in_X12 rfl rfl (gt_t 828 (by decide +kernel) rfl) hd hk k
theorem oi_RX12_1 : Cond.methodLink RX12 1 Lib.objectInit ∈ gt := gt_t 827 (by decide +kernel) rfl
theorem pf_RX12_7 (C : Cx p s m args meth c z cc nL RX12 ret nm) {a : Nat} {v : Option Nat} (hfn : nm = "<init>") (hd : decode cc pc = .ok (.putfield 7, 3)) (hk : kd S a = 13) (k : Go p l e R s m args below meth c z nL Q bc bs (pc + 3) lv st (sR S 193 a 0 v)) : Go p l e R s m args below meth c z nL Q bc bs pc lv (va_rf v :: .ref a :: st) S := G_putR C 12 0 14 rfl rfl (by decide) in_X12 tyX12 tyX12_ok nmX12 rfl rfl (gt_t 828 (by decide +kernel) rfl) (Or.inr ⟨rfl, hfn, rfl⟩) (fun _ => rfl) rfl (fun _ => rfl) rfl hd hk k
theorem pf_RX12_13 (C : Cx p s m args meth c z cc nL RX12 ret nm) {a : Nat} {v : Option Nat} (hfn : nm = "<init>") (hd : decode cc pc = .ok (.putfield 13, 3)) (hk : kd S a = 13) (k : Go p l e R s m args below meth c z nL Q bc bs (pc + 3) lv st (sR S 195 a 0 v)) : Go p l e R s m args below meth c z nL Q bc bs pc lv (va_rf v :: .ref a :: st) S := G_putR C 12 2 14 rfl rfl (by decide) in_X12 tyX12 tyX12_ok nmX12 rfl rfl (gt_t 830 (by decide +kernel) rfl) (Or.inr ⟨rfl, hfn, rfl⟩) (fun _ => rfl) rfl (fun _ => rfl) rfl hd hk k
theorem pf_RX12_16 (C : Cx p s m args meth c z cc nL RX12 ret nm) {a : Nat} {v : Option Nat} (hfn : nm = "<init>") (hd : decode cc pc = .ok (.putfield 16, 3)) (hk : kd S a = 13) (k : Go p l e R s m args below meth c z nL Q bc bs (pc + 3) lv st (sR S 202 a 0 v)) : Go p l e R s m args below meth c z nL Q bc bs pc lv (va_rf v :: .ref a :: st) S := G_putR C 12 9 14 rfl rfl (by decide) in_X12 tyX12 tyX12_ok nmX12 rfl rfl (gt_t 837 (by decide +kernel) rfl) (Or.inr ⟨rfl, hfn, rfl⟩) (fun _ => rfl) rfl (fun _ => rfl) rfl hd hk k
theorem pf_RX12_19 (C : Cx p s m args meth c z cc nL RX12 ret nm) {a : Nat} {v : Option Nat} (hfn : nm = "<init>") (hd : decode cc pc = .ok (.putfield 19, 3)) (hk : kd S a = 13) (k : Go p l e R s m args below meth c z nL Q bc bs (pc + 3) lv st (sR S 203 a 0 v)) : Go p l e R s m args below meth c z nL Q bc bs pc lv (va_rf v :: .ref a :: st) S := G_putR C 12 10 14 rfl rfl (by decide) in_X12 tyX12 tyX12_ok nmX12 rfl rfl (gt_t 838 (by decide +kernel) rfl) (Or.inr ⟨rfl, hfn, rfl⟩) (fun _ => rfl) rfl (fun _ => rfl) rfl hd hk k
theorem pf_RX12_22 (C : Cx p s m args meth c z cc nL RX12 ret nm) {a : Nat} {v : Option Nat} (hfn : nm = "<init>") (hd : decode cc pc = .ok (.putfield 22, 3)) (hk : kd S a = 13) (k : Go p l e R s m args below meth c z nL Q bc bs (pc + 3) lv st (sR S 204 a 0 v)) : Go p l e R s m args below meth c z nL Q bc bs pc lv (va_rf v :: .ref a :: st) S := G_putR C 12 11 14 rfl rfl (by decide) in_X12 tyX12 tyX12_ok nmX12 rfl rfl (gt_t 839 (by decide +kernel) rfl) (Or.inr ⟨rfl, hfn, rfl⟩) (fun _ => rfl) rfl (fun _ => rfl) rfl hd hk k
theorem pf_RX12_25 (C : Cx p s m args meth c z cc nL RX12 ret nm) {a : Nat} {v : Option Nat} (hfn : nm = "<init>") (hd : decode cc pc = .ok (.putfield 25, 3)) (hk : kd S a = 13) (k : Go p l e R s m args below meth c z nL Q bc bs (pc + 3) lv st (sR S 205 a 0 v)) : Go p l e R s m args below meth c z nL Q bc bs pc lv (va_rf v :: .ref a :: st) S := G_putR C 12 12 14 rfl rfl (by decide) in_X12 tyX12 tyX12_ok nmX12 rfl rfl (gt_t 840 (by decide +kernel) rfl) (Or.inr ⟨rfl, hfn, rfl⟩) (fun _ => rfl) rfl (fun _ => rfl) rfl hd hk k
theorem pf_RX12_28 (C : Cx p s m args meth c z cc nL RX12 ret nm) {a : Nat} {v : Option Nat} (hfn : nm = "<init>") (hd : decode cc pc = .ok (.putfield 28, 3)) (hk : kd S a = 13) (k : Go p l e R s m args below meth c z nL Q bc bs (pc + 3) lv st (sR S 206 a 0 v)) : Go p l e R s m args below meth c z nL Q bc bs pc lv (va_rf v :: .ref a :: st) S := G_putR C 12 13 14 rfl rfl (by decide) in_X12 tyX12 tyX12_ok nmX12 rfl rfl (gt_t 841 (by decide +kernel) rfl) (Or.inr ⟨rfl, hfn, rfl⟩) (fun _ => rfl) rfl (fun _ => rfl) rfl hd hk k
theorem dsc_X12_in : dsc yX12_in 3 := ⟨by decide, by decide, by decide +kernel⟩
theorem cl_RX12_31 (C : Cx p s m args meth c z cc nL RX12 ret nm) {q0 : Int64} {q1 : Int64} {q2 : Int64} {rest : List Value} {post : Option Value → Hp → Prop} (hm : Ct l z yX12_in cX12_in 6 (some .boolean) 0 0 0 0 [.long (q0), .long (q1), .long (q2)] S post) (hR : 0 + 1 ≤ R.frames ∧ 8 + (6 + 11) + 0 ≤ R.locals) (hd : decode cc pc = .ok (.invokestatic 31, 3)) (hW : (rest.map fun v => v.category).sum ≤ 8) (k : ∀ (v : Option Value) (S' : Hp), post v S' → Go p l e R s m args below meth c z nL Q bc bs (pc + 3) lv (v.toList ++ rest) S') : Go p l e R s m args below meth c z nL Q bc bs pc lv (.long (q2) :: .long (q1) :: .long (q0) :: rest) S := G_callS C (gt_t 876 (by decide +kernel) rfl) (gt_t 877 (by decide +kernel) rfl) (gt_t 14 (by decide +kernel) rfl) (gt_t 878 (by decide +kernel) rfl) (dsc_X12_in) hm rfl hR rfl hW hd k
theorem dsc_X12_at : dsc yX12_at 1 := ⟨by decide, by decide, by decide +kernel⟩
theorem cl_RX12_35 (C : Cx p s m args meth c z cc nL RX12 ret nm) {q0 : Int32} {rest : List Value} {post : Option Value → Hp → Prop} (hm : Ct l z yX12_at cX12_at 1 (some .int) 0 0 0 0 [.int (q0)] S post) (hR : 0 + 1 ≤ R.frames ∧ 8 + (1 + 11) + 0 ≤ R.locals) (hd : decode cc pc = .ok (.invokestatic 35, 3)) (hW : (rest.map fun v => v.category).sum ≤ 8) (k : ∀ (v : Option Value) (S' : Hp), post v S' → Go p l e R s m args below meth c z nL Q bc bs (pc + 3) lv (v.toList ++ rest) S') : Go p l e R s m args below meth c z nL Q bc bs pc lv (.int (q0) :: rest) S := G_callS C (gt_t 921 (by decide +kernel) rfl) (gt_t 922 (by decide +kernel) rfl) (gt_t 14 (by decide +kernel) rfl) (gt_t 923 (by decide +kernel) rfl) (dsc_X12_at) hm rfl hR rfl hW hd k
theorem dsc_X12_stripes : dsc yX12_stripes 2 := ⟨by decide, by decide, by decide +kernel⟩
theorem cl_RX12_39 (C : Cx p s m args meth c z cc nL RX12 ret nm) {q0 : Int32} {q1 : Int32} {rest : List Value} {post : Option Value → Hp → Prop} (hm : Ct l z yX12_stripes cX12_stripes 2 (some .int) 0 0 0 0 [.int (q0), .int (q1)] S post) (hR : 0 + 1 ≤ R.frames ∧ 8 + (2 + 11) + 0 ≤ R.locals) (hd : decode cc pc = .ok (.invokestatic 39, 3)) (hW : (rest.map fun v => v.category).sum ≤ 8) (k : ∀ (v : Option Value) (S' : Hp), post v S' → Go p l e R s m args below meth c z nL Q bc bs (pc + 3) lv (v.toList ++ rest) S') : Go p l e R s m args below meth c z nL Q bc bs pc lv (.int (q1) :: .int (q0) :: rest) S := G_callS C (gt_t 941 (by decide +kernel) rfl) (gt_t 942 (by decide +kernel) rfl) (gt_t 14 (by decide +kernel) rfl) (gt_t 943 (by decide +kernel) rfl) (dsc_X12_stripes) hm rfl hR rfl hW hd k
theorem dsc_X12_stripesOf : dsc yX12_stripesOf 1 := ⟨by decide, by decide, by decide +kernel⟩
theorem cl_RX12_43 (C : Cx p s m args meth c z cc nL RX12 ret nm) {a : Nat} {q0 : Int32} {rest : List Value} {post : Option Value → Hp → Prop} (hm : Ct l z yX12_stripesOf cX12_stripesOf 2 (some .int) 1 21 0 0 [.ref a, .int (q0)] S post) (hR : 1 + 1 ≤ R.frames ∧ 8 + (2 + 11) + 21 ≤ R.locals) (hk : kd S a = 13) (hd : decode cc pc = .ok (.invokevirtual 43, 3)) (hW : (rest.map fun v => v.category).sum ≤ 8) (k : ∀ (v : Option Value) (S' : Hp), post v S' → Go p l e R s m args below meth c z nL Q bc bs (pc + 3) lv (v.toList ++ rest) S') : Go p l e R s m args below meth c z nL Q bc bs pc lv (.int (q0) :: .ref a :: rest) S := G_callV C 12 14 rfl rfl (gt_t 937 (by decide +kernel) rfl) (gt_t 939 (by decide +kernel) rfl) (gt_s 26 (by decide +kernel) rfl) (gt_t 14 (by decide +kernel) rfl) (gt_t 940 (by decide +kernel) rfl) (dsc_X12_stripesOf) hm rfl hR hk rfl hW hd k
theorem dsc_X12_lengthOf : dsc yX12_lengthOf 1 := ⟨by decide, by decide, by decide +kernel⟩
theorem cl_RX12_46 (C : Cx p s m args meth c z cc nL RX12 ret nm) {a : Nat} {q0 : Int32} {rest : List Value} {post : Option Value → Hp → Prop} (hm : Ct l z yX12_lengthOf cX12_lengthOf 4 (some .int) 2 42 0 0 [.ref a, .int (q0)] S post) (hR : 2 + 1 ≤ R.frames ∧ 8 + (4 + 11) + 42 ≤ R.locals) (hk : kd S a = 13) (hd : decode cc pc = .ok (.invokevirtual 46, 3)) (hW : (rest.map fun v => v.category).sum ≤ 8) (k : ∀ (v : Option Value) (S' : Hp), post v S' → Go p l e R s m args below meth c z nL Q bc bs (pc + 3) lv (v.toList ++ rest) S') : Go p l e R s m args below meth c z nL Q bc bs pc lv (.int (q0) :: .ref a :: rest) S := G_callV C 12 14 rfl rfl (gt_t 991 (by decide +kernel) rfl) (gt_t 993 (by decide +kernel) rfl) (gt_s 31 (by decide +kernel) rfl) (gt_t 14 (by decide +kernel) rfl) (gt_t 994 (by decide +kernel) rfl) (dsc_X12_lengthOf) hm rfl hR hk rfl hW hd k
theorem gf_RX12_13 (C : Cx p s m args meth c z cc nL RX12 ret nm) {a : Nat} (hd : decode cc pc = .ok (.getfield 13, 3)) (hk : kd S a = 13) (k : Go p l e R s m args below meth c z nL Q bc bs (pc + 3) lv (va_rf (gR S 195 a 0) :: st) S) : Go p l e R s m args below meth c z nL Q bc bs pc lv (.ref a :: st) S := G_getR C 12 2 14 rfl rfl (by decide) in_X12 rfl rfl (gt_t 830 (by decide +kernel) rfl) hd hk k
theorem gf_RX12_51 (C : Cx p s m args meth c z cc nL RX12 ret nm) {a : Nat} (hd : decode cc pc = .ok (.getfield 51, 3)) (hk : kd S a = 13) (k : Go p l e R s m args below meth c z nL Q bc bs (pc + 3) lv (.int (gI S 196 a 0) :: st) S) : Go p l e R s m args below meth c z nL Q bc bs pc lv (.ref a :: st) S := G_getI C 12 3 14 rfl rfl (by decide) in_X12 rfl rfl (gt_t 831 (by decide +kernel) rfl) hd hk k
theorem kl_RX12_49 : Cond.constantLong RX12 49 255 ∈ gt := gt_t 875 (by decide +kernel) rfl
theorem pf_RX12_51 (C : Cx p s m args meth c z cc nL RX12 ret nm) {a : Nat} {v : Int32} (hd : decode cc pc = .ok (.putfield 51, 3)) (hk : kd S a = 13) (k : Go p l e R s m args below meth c z nL Q bc bs (pc + 3) lv st (sI S 196 a 0 v)) : Go p l e R s m args below meth c z nL Q bc bs pc lv (.int v :: .ref a :: st) S := G_putI C 12 3 14 rfl rfl (by decide) in_X12 tyX12 tyX12_ok nmX12 rfl rfl (gt_t 831 (by decide +kernel) rfl) (Or.inl rfl) rfl rfl hd hk k
theorem kl_RX12_55 : Cond.constantLong RX12 55 97 ∈ gt := gt_t 898 (by decide +kernel) rfl
theorem kl_RX12_57 : Cond.constantLong RX12 57 122 ∈ gt := gt_t 899 (by decide +kernel) rfl
theorem kl_RX12_59 : Cond.constantLong RX12 59 48 ∈ gt := gt_t 903 (by decide +kernel) rfl
theorem kl_RX12_61 : Cond.constantLong RX12 61 57 ∈ gt := gt_t 904 (by decide +kernel) rfl
theorem dsc_X12_isSmall : dsc yX12_isSmall 1 := ⟨by decide, by decide, by decide +kernel⟩
theorem cl_RX12_69 (C : Cx p s m args meth c z cc nL RX12 ret nm) {q0 : Int32} {rest : List Value} {post : Option Value → Hp → Prop} (hm : Ct l z yX12_isSmall cX12_isSmall 1 (some .boolean) 1 25 0 0 [.int (q0)] S post) (hR : 1 + 1 ≤ R.frames ∧ 8 + (1 + 11) + 25 ≤ R.locals) (hd : decode cc pc = .ok (.invokestatic 69, 3)) (hW : (rest.map fun v => v.category).sum ≤ 8) (k : ∀ (v : Option Value) (S' : Hp), post v S' → Go p l e R s m args below meth c z nL Q bc bs (pc + 3) lv (v.toList ++ rest) S') : Go p l e R s m args below meth c z nL Q bc bs pc lv (.int (q0) :: rest) S := G_callS C (gt_t 895 (by decide +kernel) rfl) (gt_t 896 (by decide +kernel) rfl) (gt_t 14 (by decide +kernel) rfl) (gt_t 897 (by decide +kernel) rfl) (dsc_X12_isSmall) hm rfl hR rfl hW hd k
theorem dsc_X12_isDigit : dsc yX12_isDigit 1 := ⟨by decide, by decide, by decide +kernel⟩
theorem cl_RX12_73 (C : Cx p s m args meth c z cc nL RX12 ret nm) {q0 : Int32} {rest : List Value} {post : Option Value → Hp → Prop} (hm : Ct l z yX12_isDigit cX12_isDigit 1 (some .boolean) 1 25 0 0 [.int (q0)] S post) (hR : 1 + 1 ≤ R.frames ∧ 8 + (1 + 11) + 25 ≤ R.locals) (hd : decode cc pc = .ok (.invokestatic 73, 3)) (hW : (rest.map fun v => v.category).sum ≤ 8) (k : ∀ (v : Option Value) (S' : Hp), post v S' → Go p l e R s m args below meth c z nL Q bc bs (pc + 3) lv (v.toList ++ rest) S') : Go p l e R s m args below meth c z nL Q bc bs pc lv (.int (q0) :: rest) S := G_callS C (gt_t 900 (by decide +kernel) rfl) (gt_t 901 (by decide +kernel) rfl) (gt_t 14 (by decide +kernel) rfl) (gt_t 902 (by decide +kernel) rfl) (dsc_X12_isDigit) hm rfl hR rfl hW hd k
theorem gf_RX12_63 (C : Cx p s m args meth c z cc nL RX12 ret nm) {a : Nat} (hd : decode cc pc = .ok (.getfield 63, 3)) (hk : kd S a = 13) (k : Go p l e R s m args below meth c z nL Q bc bs (pc + 3) lv (.int (gI S 198 a 0) :: st) S) : Go p l e R s m args below meth c z nL Q bc bs pc lv (.ref a :: st) S := G_getI C 12 5 14 rfl rfl (by decide) in_X12 rfl rfl (gt_t 833 (by decide +kernel) rfl) hd hk k
theorem gf_RX12_66 (C : Cx p s m args meth c z cc nL RX12 ret nm) {a : Nat} (hd : decode cc pc = .ok (.getfield 66, 3)) (hk : kd S a = 13) (k : Go p l e R s m args below meth c z nL Q bc bs (pc + 3) lv (.int (gI S 197 a 0) :: st) S) : Go p l e R s m args below meth c z nL Q bc bs pc lv (.ref a :: st) S := G_getI C 12 4 14 rfl rfl (by decide) in_X12 rfl rfl (gt_t 832 (by decide +kernel) rfl) hd hk k
theorem pf_RX12_63 (C : Cx p s m args meth c z cc nL RX12 ret nm) {a : Nat} {v : Int32} (hd : decode cc pc = .ok (.putfield 63, 3)) (hk : kd S a = 13) (k : Go p l e R s m args below meth c z nL Q bc bs (pc + 3) lv st (sI S 198 a 0 v)) : Go p l e R s m args below meth c z nL Q bc bs pc lv (.int v :: .ref a :: st) S := G_putI C 12 5 14 rfl rfl (by decide) in_X12 tyX12 tyX12_ok nmX12 rfl rfl (gt_t 833 (by decide +kernel) rfl) (Or.inl rfl) rfl rfl hd hk k
theorem pf_RX12_66 (C : Cx p s m args meth c z cc nL RX12 ret nm) {a : Nat} {v : Int32} (hd : decode cc pc = .ok (.putfield 66, 3)) (hk : kd S a = 13) (k : Go p l e R s m args below meth c z nL Q bc bs (pc + 3) lv st (sI S 197 a 0 v)) : Go p l e R s m args below meth c z nL Q bc bs pc lv (.int v :: .ref a :: st) S := G_putI C 12 4 14 rfl rfl (by decide) in_X12 tyX12 tyX12_ok nmX12 rfl rfl (gt_t 832 (by decide +kernel) rfl) (Or.inl rfl) rfl rfl hd hk k
theorem gf_RX12_19 (C : Cx p s m args meth c z cc nL RX12 ret nm) {a : Nat} (hd : decode cc pc = .ok (.getfield 19, 3)) (hk : kd S a = 13) (k : Go p l e R s m args below meth c z nL Q bc bs (pc + 3) lv (va_rf (gR S 203 a 0) :: st) S) : Go p l e R s m args below meth c z nL Q bc bs pc lv (.ref a :: st) S := G_getR C 12 10 14 rfl rfl (by decide) in_X12 rfl rfl (gt_t 838 (by decide +kernel) rfl) hd hk k
theorem dsc_X12_next : dsc yX12_next 0 := ⟨by decide, by decide, by decide +kernel⟩
theorem cl_RX12_76 (C : Cx p s m args meth c z cc nL RX12 ret nm) {a : Nat}  {rest : List Value} {post : Option Value → Hp → Prop} (hm : Ct l z yX12_next cX12_next 3 none 2 45 0 0 [.ref a] S post) (hR : 2 + 1 ≤ R.frames ∧ 8 + (3 + 11) + 45 ≤ R.locals) (hk : kd S a = 13) (hd : decode cc pc = .ok (.invokevirtual 76, 3)) (hW : (rest.map fun v => v.category).sum ≤ 8) (k : ∀ (v : Option Value) (S' : Hp), post v S' → Go p l e R s m args below meth c z nL Q bc bs (pc + 3) lv (v.toList ++ rest) S') : Go p l e R s m args below meth c z nL Q bc bs pc lv (.ref a :: rest) S := G_callV C 12 14 rfl rfl (gt_t 891 (by decide +kernel) rfl) (gt_t 893 (by decide +kernel) rfl) (gt_s 20 (by decide +kernel) rfl) (gt_t 14 (by decide +kernel) rfl) (gt_t 894 (by decide +kernel) rfl) (dsc_X12_next) hm rfl hR hk rfl hW hd k
theorem gf_RX12_16 (C : Cx p s m args meth c z cc nL RX12 ret nm) {a : Nat} (hd : decode cc pc = .ok (.getfield 16, 3)) (hk : kd S a = 13) (k : Go p l e R s m args below meth c z nL Q bc bs (pc + 3) lv (va_rf (gR S 202 a 0) :: st) S) : Go p l e R s m args below meth c z nL Q bc bs pc lv (.ref a :: st) S := G_getR C 12 9 14 rfl rfl (by decide) in_X12 rfl rfl (gt_t 837 (by decide +kernel) rfl) hd hk k
theorem dsc_X12_reads : dsc yX12_reads 3 := ⟨by decide, by decide, by decide +kernel⟩
theorem cl_RX12_79 (C : Cx p s m args meth c z cc nL RX12 ret nm) {a : Nat} {q0 : Int32} {q1 : Int32} {q2 : Int32} {rest : List Value} {post : Option Value → Hp → Prop} (hm : Ct l z yX12_reads cX12_reads 6 (some .boolean) 3 67 0 0 [.ref a, .int (q0), .int (q1), .int (q2)] S post) (hR : 3 + 1 ≤ R.frames ∧ 8 + (6 + 11) + 67 ≤ R.locals) (hk : kd S a = 13) (hd : decode cc pc = .ok (.invokevirtual 79, 3)) (hW : (rest.map fun v => v.category).sum ≤ 8) (k : ∀ (v : Option Value) (S' : Hp), post v S' → Go p l e R s m args below meth c z nL Q bc bs (pc + 3) lv (v.toList ++ rest) S') : Go p l e R s m args below meth c z nL Q bc bs pc lv (.int (q2) :: .int (q1) :: .int (q0) :: .ref a :: rest) S := G_callV C 12 14 rfl rfl (gt_t 917 (by decide +kernel) rfl) (gt_t 919 (by decide +kernel) rfl) (gt_s 24 (by decide +kernel) rfl) (gt_t 14 (by decide +kernel) rfl) (gt_t 920 (by decide +kernel) rfl) (dsc_X12_reads) hm rfl hR hk rfl hW hd k
theorem gf_RX12_83 (C : Cx p s m args meth c z cc nL RX12 ret nm) {a : Nat} (hd : decode cc pc = .ok (.getfield 83, 3)) (hk : kd S a = 13) (k : Go p l e R s m args below meth c z nL Q bc bs (pc + 3) lv (.int (gI S 199 a 0) :: st) S) : Go p l e R s m args below meth c z nL Q bc bs pc lv (.ref a :: st) S := G_getI C 12 6 14 rfl rfl (by decide) in_X12 rfl rfl (gt_t 834 (by decide +kernel) rfl) hd hk k
theorem gf_RX12_86 (C : Cx p s m args meth c z cc nL RX12 ret nm) {a : Nat} (hd : decode cc pc = .ok (.getfield 86, 3)) (hk : kd S a = 13) (k : Go p l e R s m args below meth c z nL Q bc bs (pc + 3) lv (.int (gI S 201 a 0) :: st) S) : Go p l e R s m args below meth c z nL Q bc bs pc lv (.ref a :: st) S := G_getI C 12 8 14 rfl rfl (by decide) in_X12 rfl rfl (gt_t 836 (by decide +kernel) rfl) hd hk k
theorem pf_RX12_83 (C : Cx p s m args meth c z cc nL RX12 ret nm) {a : Nat} {v : Int32} (hd : decode cc pc = .ok (.putfield 83, 3)) (hk : kd S a = 13) (k : Go p l e R s m args below meth c z nL Q bc bs (pc + 3) lv st (sI S 199 a 0 v)) : Go p l e R s m args below meth c z nL Q bc bs pc lv (.int v :: .ref a :: st) S := G_putI C 12 6 14 rfl rfl (by decide) in_X12 tyX12 tyX12_ok nmX12 rfl rfl (gt_t 834 (by decide +kernel) rfl) (Or.inl rfl) rfl rfl hd hk k
theorem dsc_X12_wordHere : dsc yX12_wordHere 0 := ⟨by decide, by decide, by decide +kernel⟩
theorem cl_RX12_90 (C : Cx p s m args meth c z cc nL RX12 ret nm) {a : Nat}  {rest : List Value} {post : Option Value → Hp → Prop} (hm : Ct l z yX12_wordHere cX12_wordHere 4 (some .int) 0 0 0 0 [.ref a] S post) (hR : 0 + 1 ≤ R.frames ∧ 8 + (4 + 11) + 0 ≤ R.locals) (hk : kd S a = 13) (hd : decode cc pc = .ok (.invokevirtual 90, 3)) (hW : (rest.map fun v => v.category).sum ≤ 8) (k : ∀ (v : Option Value) (S' : Hp), post v S' → Go p l e R s m args below meth c z nL Q bc bs (pc + 3) lv (v.toList ++ rest) S') : Go p l e R s m args below meth c z nL Q bc bs pc lv (.ref a :: rest) S := G_callV C 12 14 rfl rfl (gt_t 909 (by decide +kernel) rfl) (gt_t 911 (by decide +kernel) rfl) (gt_s 22 (by decide +kernel) rfl) (gt_t 14 (by decide +kernel) rfl) (gt_t 912 (by decide +kernel) rfl) (dsc_X12_wordHere) hm rfl hR hk rfl hW hd k
theorem dsc_X12_readsPart : dsc yX12_readsPart 0 := ⟨by decide, by decide, by decide +kernel⟩
theorem cl_RX12_94 (C : Cx p s m args meth c z cc nL RX12 ret nm) {a : Nat}  {rest : List Value} {post : Option Value → Hp → Prop} (hm : Ct l z yX12_readsPart cX12_readsPart 5 (some .boolean) 4 92 0 0 [.ref a] S post) (hR : 4 + 1 ≤ R.frames ∧ 8 + (5 + 11) + 92 ≤ R.locals) (hk : kd S a = 13) (hd : decode cc pc = .ok (.invokevirtual 94, 3)) (hW : (rest.map fun v => v.category).sum ≤ 8) (k : ∀ (v : Option Value) (S' : Hp), post v S' → Go p l e R s m args below meth c z nL Q bc bs (pc + 3) lv (v.toList ++ rest) S') : Go p l e R s m args below meth c z nL Q bc bs pc lv (.ref a :: rest) S := G_callV C 12 14 rfl rfl (gt_t 913 (by decide +kernel) rfl) (gt_t 915 (by decide +kernel) rfl) (gt_s 23 (by decide +kernel) rfl) (gt_t 14 (by decide +kernel) rfl) (gt_t 916 (by decide +kernel) rfl) (dsc_X12_readsPart) hm rfl hR hk rfl hW hd k
theorem dsc_X12_readsClause : dsc yX12_readsClause 0 := ⟨by decide, by decide, by decide +kernel⟩
theorem cl_RX12_101 (C : Cx p s m args meth c z cc nL RX12 ret nm) {a : Nat}  {rest : List Value} {post : Option Value → Hp → Prop} (hm : Ct l z yX12_readsClause cX12_readsClause 3 (some .boolean) 5 116 0 0 [.ref a] S post) (hR : 5 + 1 ≤ R.frames ∧ 8 + (3 + 11) + 116 ≤ R.locals) (hk : kd S a = 13) (hd : decode cc pc = .ok (.invokevirtual 101, 3)) (hW : (rest.map fun v => v.category).sum ≤ 8) (k : ∀ (v : Option Value) (S' : Hp), post v S' → Go p l e R s m args below meth c z nL Q bc bs (pc + 3) lv (v.toList ++ rest) S') : Go p l e R s m args below meth c z nL Q bc bs pc lv (.ref a :: rest) S := G_callV C 12 14 rfl rfl (gt_t 905 (by decide +kernel) rfl) (gt_t 907 (by decide +kernel) rfl) (gt_s 21 (by decide +kernel) rfl) (gt_t 14 (by decide +kernel) rfl) (gt_t 908 (by decide +kernel) rfl) (dsc_X12_readsClause) hm rfl hR hk rfl hW hd k
theorem gf_RX12_98 (C : Cx p s m args meth c z cc nL RX12 ret nm) {a : Nat} (hd : decode cc pc = .ok (.getfield 98, 3)) (hk : kd S a = 13) (k : Go p l e R s m args below meth c z nL Q bc bs (pc + 3) lv (.int (gI S 200 a 0) :: st) S) : Go p l e R s m args below meth c z nL Q bc bs pc lv (.ref a :: st) S := G_getI C 12 7 14 rfl rfl (by decide) in_X12 rfl rfl (gt_t 835 (by decide +kernel) rfl) hd hk k
theorem pf_RX12_86 (C : Cx p s m args meth c z cc nL RX12 ret nm) {a : Nat} {v : Int32} (hd : decode cc pc = .ok (.putfield 86, 3)) (hk : kd S a = 13) (hb : v = 0 ∨ v = 1) (k : Go p l e R s m args below meth c z nL Q bc bs (pc + 3) lv st (sI S 201 a 0 v)) : Go p l e R s m args below meth c z nL Q bc bs pc lv (.int v :: .ref a :: st) S := G_putI C 12 8 14 rfl rfl (by decide) in_X12 tyX12 tyX12_ok nmX12 rfl rfl (gt_t 836 (by decide +kernel) rfl) (Or.inl rfl) (by rcases hb with rfl | rfl <;> rfl) (by rcases hb with rfl | rfl <;> rfl) hd hk k
theorem pf_RX12_98 (C : Cx p s m args meth c z cc nL RX12 ret nm) {a : Nat} {v : Int32} (hd : decode cc pc = .ok (.putfield 98, 3)) (hk : kd S a = 13) (k : Go p l e R s m args below meth c z nL Q bc bs (pc + 3) lv st (sI S 200 a 0 v)) : Go p l e R s m args below meth c z nL Q bc bs pc lv (.int v :: .ref a :: st) S := G_putI C 12 7 14 rfl rfl (by decide) in_X12 tyX12 tyX12_ok nmX12 rfl rfl (gt_t 835 (by decide +kernel) rfl) (Or.inl rfl) rfl rfl hd hk k
theorem dsc_X12_readsAll : dsc yX12_readsAll 1 := ⟨by decide, by decide, by decide +kernel⟩
theorem cl_RX12_104 (C : Cx p s m args meth c z cc nL RX12 ret nm) {a : Nat} {q0 : Int32} {rest : List Value} {post : Option Value → Hp → Prop} (hm : Ct l z yX12_readsAll cX12_readsAll 3 (some .boolean) 6 138 0 0 [.ref a, .int (q0)] S post) (hR : 6 + 1 ≤ R.frames ∧ 8 + (3 + 11) + 138 ≤ R.locals) (hk : kd S a = 13) (hd : decode cc pc = .ok (.invokevirtual 104, 3)) (hW : (rest.map fun v => v.category).sum ≤ 8) (k : ∀ (v : Option Value) (S' : Hp), post v S' → Go p l e R s m args below meth c z nL Q bc bs (pc + 3) lv (v.toList ++ rest) S') : Go p l e R s m args below meth c z nL Q bc bs pc lv (.int (q0) :: .ref a :: rest) S := G_callV C 12 14 rfl rfl (gt_t 887 (by decide +kernel) rfl) (gt_t 889 (by decide +kernel) rfl) (gt_s 19 (by decide +kernel) rfl) (gt_t 14 (by decide +kernel) rfl) (gt_t 890 (by decide +kernel) rfl) (dsc_X12_readsAll) hm rfl hR hk rfl hW hd k
theorem pf_RX12_108 (C : Cx p s m args meth c z cc nL RX12 ret nm) {a : Nat} {v : Int32} (hd : decode cc pc = .ok (.putfield 108, 3)) (hk : kd S a = 13) (k : Go p l e R s m args below meth c z nL Q bc bs (pc + 3) lv st (sI S 194 a 0 v)) : Go p l e R s m args below meth c z nL Q bc bs pc lv (.int v :: .ref a :: st) S := G_putI C 12 1 14 rfl rfl (by decide) in_X12 tyX12 tyX12_ok nmX12 rfl rfl (gt_t 829 (by decide +kernel) rfl) (Or.inl rfl) rfl rfl hd hk k
theorem dsc_X12_isPart : dsc yX12_isPart 1 := ⟨by decide, by decide, by decide +kernel⟩
theorem cl_RX12_111 (C : Cx p s m args meth c z cc nL RX12 ret nm) {a : Nat} {q0 : Int32} {rest : List Value} {post : Option Value → Hp → Prop} (hm : Ct l z yX12_isPart cX12_isPart 2 (some .boolean) 1 25 0 0 [.ref a, .int (q0)] S post) (hR : 1 + 1 ≤ R.frames ∧ 8 + (2 + 11) + 25 ≤ R.locals) (hk : kd S a = 13) (hd : decode cc pc = .ok (.invokevirtual 111, 3)) (hW : (rest.map fun v => v.category).sum ≤ 8) (k : ∀ (v : Option Value) (S' : Hp), post v S' → Go p l e R s m args below meth c z nL Q bc bs (pc + 3) lv (v.toList ++ rest) S') : Go p l e R s m args below meth c z nL Q bc bs pc lv (.int (q0) :: .ref a :: rest) S := G_callV C 12 14 rfl rfl (gt_t 932 (by decide +kernel) rfl) (gt_t 934 (by decide +kernel) rfl) (gt_s 25 (by decide +kernel) rfl) (gt_t 14 (by decide +kernel) rfl) (gt_t 935 (by decide +kernel) rfl) (dsc_X12_isPart) hm rfl hR hk rfl hW hd k
theorem kl_RX12_114 : Cond.constantLong RX12 114 2 ∈ gt := gt_t 936 (by decide +kernel) rfl
theorem dsc_X12_copyRow : dsc yX12_copyRow 2 := ⟨by decide, by decide, by decide +kernel⟩
theorem cl_RX12_116 (C : Cx p s m args meth c z cc nL RX12 ret nm) {a : Nat} {q0 : Int32} {q1 : Int32} {rest : List Value} {post : Option Value → Hp → Prop} (hm : Ct l z yX12_copyRow cX12_copyRow 4 none 0 0 0 0 [.ref a, .int (q0), .int (q1)] S post) (hR : 0 + 1 ≤ R.frames ∧ 8 + (4 + 11) + 0 ≤ R.locals) (hk : kd S a = 13) (hd : decode cc pc = .ok (.invokevirtual 116, 3)) (hW : (rest.map fun v => v.category).sum ≤ 8) (k : ∀ (v : Option Value) (S' : Hp), post v S' → Go p l e R s m args below meth c z nL Q bc bs (pc + 3) lv (v.toList ++ rest) S') : Go p l e R s m args below meth c z nL Q bc bs pc lv (.int (q1) :: .int (q0) :: .ref a :: rest) S := G_callV C 12 14 rfl rfl (gt_t 961 (by decide +kernel) rfl) (gt_t 963 (by decide +kernel) rfl) (gt_s 29 (by decide +kernel) rfl) (gt_t 14 (by decide +kernel) rfl) (gt_t 964 (by decide +kernel) rfl) (dsc_X12_copyRow) hm rfl hR hk rfl hW hd k
theorem gf_RX12_108 (C : Cx p s m args meth c z cc nL RX12 ret nm) {a : Nat} (hd : decode cc pc = .ok (.getfield 108, 3)) (hk : kd S a = 13) (k : Go p l e R s m args below meth c z nL Q bc bs (pc + 3) lv (.int (gI S 194 a 0) :: st) S) : Go p l e R s m args below meth c z nL Q bc bs pc lv (.ref a :: st) S := G_getI C 12 1 14 rfl rfl (by decide) in_X12 rfl rfl (gt_t 829 (by decide +kernel) rfl) hd hk k
/-! FirstPartsModel.<init>()V -/
abbrev wp_X12_init (a0 : Nat) (S : Hp) (Q : Hp → Prop) : Prop :=
  1 ≤ 7 ∧ 6930 ≤ 7464 ∧ ∀ n1 : Nat, n1 = sz S → ∀ S2 : Hp, S2 = nw S 20 (6930) → kd S2 a0 = 13 ∧ ∀ S3 : Hp, S3 = sR S2 193 a0 0 (some n1) → 1 ≤ (7 - 1) ∧ 200 ≤ (7464 - 6930) ∧ ∀ n4 : Nat, n4 = sz S3 → ∀ S5 : Hp, S5 = nw S3 20 (200) → kd S5 a0 = 13 ∧ ∀ S6 : Hp, S6 = sR S5 195 a0 0 (some n4) → 1 ≤ ((7 - 1) - 1) ∧ 2 ≤ ((7464 - 6930) - 200) ∧ ∀ n7 : Nat, n7 = sz S6 → ∀ S8 : Hp, S8 = nw S6 20 (2) → kd S8 a0 = 13 ∧ ∀ S9 : Hp, S9 = sR S8 202 a0 0 (some n7) → 1 ≤ (((7 - 1) - 1) - 1) ∧ 28 ≤ (((7464 - 6930) - 200) - 2) ∧ ∀ n10 : Nat, n10 = sz S9 → ∀ S11 : Hp, S11 = nw S9 20 (28) → kd S11 n10 = 20 ∧ vp_in (0 : Int32) (ln S11 n10) ∧ ∀ S12 : Hp, S12 = sI S11 0 n10 ((0 : Int32)).toNatClampNeg (97 : Int32) → kd S12 n10 = 20 ∧ vp_in (1 : Int32) (ln S12 n10) ∧ ∀ S13 : Hp, S13 = sI S12 0 n10 ((1 : Int32)).toNatClampNeg (108 : Int32) → kd S13 n10 = 20 ∧ vp_in (2 : Int32) (ln S13 n10) ∧ ∀ S14 : Hp, S14 = sI S13 0 n10 ((2 : Int32)).toNatClampNeg (108 : Int32) → kd S14 n10 = 20 ∧ vp_in (3 : Int32) (ln S14 n10) ∧ ∀ S15 : Hp, S15 = sI S14 0 n10 ((3 : Int32)).toNatClampNeg (0 : Int32) → kd S15 n10 = 20 ∧ vp_in (4 : Int32) (ln S15 n10) ∧ ∀ S16 : Hp, S16 = sI S15 0 n10 ((4 : Int32)).toNatClampNeg (0 : Int32) → kd S16 n10 = 20 ∧ vp_in (5 : Int32) (ln S16 n10) ∧ ∀ S17 : Hp, S17 = sI S16 0 n10 ((5 : Int32)).toNatClampNeg (0 : Int32) → kd S17 n10 = 20 ∧ vp_in (6 : Int32) (ln S17 n10) ∧ ∀ S18 : Hp, S18 = sI S17 0 n10 ((6 : Int32)).toNatClampNeg (0 : Int32) → kd S18 n10 = 20 ∧ vp_in (7 : Int32) (ln S18 n10) ∧ ∀ S19 : Hp, S19 = sI S18 0 n10 ((7 : Int32)).toNatClampNeg (112 : Int32) → kd S19 n10 = 20 ∧ vp_in (8 : Int32) (ln S19 n10) ∧ ∀ S20 : Hp, S20 = sI S19 0 n10 ((8 : Int32)).toNatClampNeg (97 : Int32) → kd S20 n10 = 20 ∧ vp_in (9 : Int32) (ln S20 n10) ∧ ∀ S21 : Hp, S21 = sI S20 0 n10 ((9 : Int32)).toNatClampNeg (99 : Int32) → kd S21 n10 = 20 ∧ vp_in (10 : Int32) (ln S21 n10) ∧ ∀ S22 : Hp, S22 = sI S21 0 n10 ((10 : Int32)).toNatClampNeg (107 : Int32) → kd S22 n10 = 20 ∧ vp_in (11 : Int32) (ln S22 n10) ∧ ∀ S23 : Hp, S23 = sI S22 0 n10 ((11 : Int32)).toNatClampNeg (101 : Int32) → kd S23 n10 = 20 ∧ vp_in (12 : Int32) (ln S23 n10) ∧ ∀ S24 : Hp, S24 = sI S23 0 n10 ((12 : Int32)).toNatClampNeg (116 : Int32) → kd S24 n10 = 20 ∧ vp_in (13 : Int32) (ln S24 n10) ∧ ∀ S25 : Hp, S25 = sI S24 0 n10 ((13 : Int32)).toNatClampNeg (115 : Int32) → kd S25 n10 = 20 ∧ vp_in (14 : Int32) (ln S25 n10) ∧ ∀ S26 : Hp, S26 = sI S25 0 n10 ((14 : Int32)).toNatClampNeg (114 : Int32) → kd S26 n10 = 20 ∧ vp_in (15 : Int32) (ln S26 n10) ∧ ∀ S27 : Hp, S27 = sI S26 0 n10 ((15 : Int32)).toNatClampNeg (111 : Int32) → kd S27 n10 = 20 ∧ vp_in (16 : Int32) (ln S27 n10) ∧ ∀ S28 : Hp, S28 = sI S27 0 n10 ((16 : Int32)).toNatClampNeg (111 : Int32) → kd S28 n10 = 20 ∧ vp_in (17 : Int32) (ln S28 n10) ∧ ∀ S29 : Hp, S29 = sI S28 0 n10 ((17 : Int32)).toNatClampNeg (109 : Int32) → kd S29 n10 = 20 ∧ vp_in (18 : Int32) (ln S29 n10) ∧ ∀ S30 : Hp, S30 = sI S29 0 n10 ((18 : Int32)).toNatClampNeg (0 : Int32) → kd S30 n10 = 20 ∧ vp_in (19 : Int32) (ln S30 n10) ∧ ∀ S31 : Hp, S31 = sI S30 0 n10 ((19 : Int32)).toNatClampNeg (0 : Int32) → kd S31 n10 = 20 ∧ vp_in (20 : Int32) (ln S31 n10) ∧ ∀ S32 : Hp, S32 = sI S31 0 n10 ((20 : Int32)).toNatClampNeg (0 : Int32) → kd S32 n10 = 20 ∧ vp_in (21 : Int32) (ln S32 n10) ∧ ∀ S33 : Hp, S33 = sI S32 0 n10 ((21 : Int32)).toNatClampNeg (112 : Int32) → kd S33 n10 = 20 ∧ vp_in (22 : Int32) (ln S33 n10) ∧ ∀ S34 : Hp, S34 = sI S33 0 n10 ((22 : Int32)).toNatClampNeg (97 : Int32) → kd S34 n10 = 20 ∧ vp_in (23 : Int32) (ln S34 n10) ∧ ∀ S35 : Hp, S35 = sI S34 0 n10 ((23 : Int32)).toNatClampNeg (114 : Int32) → kd S35 n10 = 20 ∧ vp_in (24 : Int32) (ln S35 n10) ∧ ∀ S36 : Hp, S36 = sI S35 0 n10 ((24 : Int32)).toNatClampNeg (116 : Int32) → kd S36 n10 = 20 ∧ vp_in (25 : Int32) (ln S36 n10) ∧ ∀ S37 : Hp, S37 = sI S36 0 n10 ((25 : Int32)).toNatClampNeg (0 : Int32) → kd S37 n10 = 20 ∧ vp_in (26 : Int32) (ln S37 n10) ∧ ∀ S38 : Hp, S38 = sI S37 0 n10 ((26 : Int32)).toNatClampNeg (0 : Int32) → kd S38 n10 = 20 ∧ vp_in (27 : Int32) (ln S38 n10) ∧ ∀ S39 : Hp, S39 = sI S38 0 n10 ((27 : Int32)).toNatClampNeg (0 : Int32) → kd S39 a0 = 13 ∧ ∀ S40 : Hp, S40 = sR S39 203 a0 0 (some n10) → 1 ≤ ((((7 - 1) - 1) - 1) - 1) ∧ 8 ≤ ((((7464 - 6930) - 200) - 2) - 28) ∧ ∀ n41 : Nat, n41 = sz S40 → ∀ S42 : Hp, S42 = nw S40 20 (8) → kd S42 a0 = 13 ∧ ∀ S43 : Hp, S43 = sR S42 204 a0 0 (some n41) → 1 ≤ (((((7 - 1) - 1) - 1) - 1) - 1) ∧ 9 ≤ (((((7464 - 6930) - 200) - 2) - 28) - 8) ∧ ∀ n44 : Nat, n44 = sz S43 → ∀ S45 : Hp, S45 = nw S43 20 (9) → kd S45 a0 = 13 ∧ ∀ S46 : Hp, S46 = sR S45 205 a0 0 (some n44) → 1 ≤ ((((((7 - 1) - 1) - 1) - 1) - 1) - 1) ∧ 287 ≤ ((((((7464 - 6930) - 200) - 2) - 28) - 8) - 9) ∧ ∀ n47 : Nat, n47 = sz S46 → ∀ S48 : Hp, S48 = nw S46 20 (287) → kd S48 a0 = 13 ∧ ∀ S49 : Hp, S49 = sR S48 206 a0 0 (some n47) → kd S49 a0 = 13 ∧ ∃ b50, (gR S49 193 a0 0) = some b50 ∧ kd S49 b50 = 20 ∧ vp_in (0 : Int32) (ln S49 b50) ∧ ∀ S51 : Hp, S51 = sI S49 0 b50 ((0 : Int32)).toNatClampNeg (4 : Int32) → kd S51 a0 = 13 ∧ ∃ b52, (gR S51 193 a0 0) = some b52 ∧ kd S51 b52 = 20 ∧ vp_in (1 : Int32) (ln S51 b52) ∧ ∀ S53 : Hp, S53 = sI S51 0 b52 ((1 : Int32)).toNatClampNeg (20 : Int32) → Q S53
set_option maxHeartbeats 4000000 in
set_option maxRecDepth 100000 in
theorem c_X12_init (l : Launch) (z : Zt) (a0 : Nat) (S : Hp) (Q : Hp → Prop) (hw : wp_X12_init a0 S Q) : Ct l z yX12_init cX12_init 1 none 1 20 7 7464 [.ref (a0)] S (wV Q) := by
  refine Ct_of (by decide) (Nat.le_of_ble_eq_true rfl) ?_
  intro p e s m args below meth c C
  have C : Cx p s m args meth c z cX12_init 1 RX12 none "<init>" := C
  refine G_sub (lv' := [(0, .ref (a0))]) [0] rfl ?_
  refine G_aload_n (pc := 0) C 0 dX12_init_0 rfl rfl ?_
  refine G_objInit (pc := 1) C oi_RX12_1 (by decide) (by decide) dX12_init_1 ?_
  refine G_aload_n (pc := 4) C 0 dX12_init_4 rfl rfl ?_
  refine G_sipush (pc := 5) C (v := 6930) dX12_init_5 (by decide) ?_
  obtain ⟨hb1, hb2, hw⟩ := hw
  refine G_less (bc' := (7 - 1) + 1) (bs' := (7464 - 6930) + 6930) (by omega) (by omega) ?_
  refine G_newa (pc := 8) C (n := (6930 : Int32)) 6930 w_aI (by decide) (by decide) (by decide) dX12_init_8 ?_
  obtain ⟨n1, hn1⟩ : ∃ y : Nat, y = sz S := ⟨_, rfl⟩
  obtain ⟨S2, hS2⟩ : ∃ y : Hp, y = nw S 20 (6930) := ⟨_, rfl⟩
  have hw := hw n1 hn1 S2 hS2
  rw [← hn1]
  rw [← hS2]
  clear hn1 hS2
  obtain ⟨hk, hw⟩ := hw
  refine pf_RX12_7 (pc := 10) C rfl (v := some n1) dX12_init_10 hk ?_
  obtain ⟨S3, hS3⟩ : ∃ y : Hp, y = sR S2 193 a0 0 (some n1) := ⟨_, rfl⟩
  have hw := hw S3 hS3
  rw [← hS3]
  clear hS3
  refine G_aload_n (pc := 13) C 0 dX12_init_13 rfl rfl ?_
  refine G_sipush (pc := 14) C (v := 200) dX12_init_14 (by decide) ?_
  obtain ⟨hb1, hb2, hw⟩ := hw
  refine G_less (bc' := ((7 - 1) - 1) + 1) (bs' := ((7464 - 6930) - 200) + 200) (by omega) (by omega) ?_
  refine G_newa (pc := 17) C (n := (200 : Int32)) 200 w_aI (by decide) (by decide) (by decide) dX12_init_17 ?_
  obtain ⟨n4, hn4⟩ : ∃ y : Nat, y = sz S3 := ⟨_, rfl⟩
  obtain ⟨S5, hS5⟩ : ∃ y : Hp, y = nw S3 20 (200) := ⟨_, rfl⟩
  have hw := hw n4 hn4 S5 hS5
  rw [← hn4]
  rw [← hS5]
  clear hn4 hS5
  obtain ⟨hk, hw⟩ := hw
  refine pf_RX12_13 (pc := 19) C rfl (v := some n4) dX12_init_19 hk ?_
  obtain ⟨S6, hS6⟩ : ∃ y : Hp, y = sR S5 195 a0 0 (some n4) := ⟨_, rfl⟩
  have hw := hw S6 hS6
  rw [← hS6]
  clear hS6
  refine G_aload_n (pc := 22) C 0 dX12_init_22 rfl rfl ?_
  refine G_iconst (pc := 23) C (v := 2) dX12_init_23 (by decide) ?_
  obtain ⟨hb1, hb2, hw⟩ := hw
  refine G_less (bc' := (((7 - 1) - 1) - 1) + 1) (bs' := (((7464 - 6930) - 200) - 2) + 2) (by omega) (by omega) ?_
  refine G_newa (pc := 24) C (n := (2 : Int32)) 2 w_aI (by decide) (by decide) (by decide) dX12_init_24 ?_
  obtain ⟨n7, hn7⟩ : ∃ y : Nat, y = sz S6 := ⟨_, rfl⟩
  obtain ⟨S8, hS8⟩ : ∃ y : Hp, y = nw S6 20 (2) := ⟨_, rfl⟩
  have hw := hw n7 hn7 S8 hS8
  rw [← hn7]
  rw [← hS8]
  clear hn7 hS8
  obtain ⟨hk, hw⟩ := hw
  refine pf_RX12_16 (pc := 26) C rfl (v := some n7) dX12_init_26 hk ?_
  obtain ⟨S9, hS9⟩ : ∃ y : Hp, y = sR S8 202 a0 0 (some n7) := ⟨_, rfl⟩
  have hw := hw S9 hS9
  rw [← hS9]
  clear hS9
  refine G_aload_n (pc := 29) C 0 dX12_init_29 rfl rfl ?_
  refine G_bipush (pc := 30) C (v := 28) dX12_init_30 (by decide) ?_
  obtain ⟨hb1, hb2, hw⟩ := hw
  refine G_less (bc' := ((((7 - 1) - 1) - 1) - 1) + 1) (bs' := ((((7464 - 6930) - 200) - 2) - 28) + 28) (by omega) (by omega) ?_
  refine G_newa (pc := 32) C (n := (28 : Int32)) 28 w_aI (by decide) (by decide) (by decide) dX12_init_32 ?_
  obtain ⟨n10, hn10⟩ : ∃ y : Nat, y = sz S9 := ⟨_, rfl⟩
  obtain ⟨S11, hS11⟩ : ∃ y : Hp, y = nw S9 20 (28) := ⟨_, rfl⟩
  have hw := hw n10 hn10 S11 hS11
  rw [← hn10]
  rw [← hS11]
  clear hn10 hS11
  refine G_dup (pc := 34) C dX12_init_34 rfl ?_
  refine G_iconst (pc := 35) C (v := 0) dX12_init_35 (by decide) ?_
  refine G_bipush (pc := 36) C (v := 97) dX12_init_36 (by decide) ?_
  obtain ⟨hk, hi, hw⟩ := hw
  refine G_iast (pc := 38) C hk hi dX12_init_38 ?_
  obtain ⟨S12, hS12⟩ : ∃ y : Hp, y = sI S11 0 n10 ((0 : Int32)).toNatClampNeg (97 : Int32) := ⟨_, rfl⟩
  have hw := hw S12 hS12
  rw [← hS12]
  clear hS12
  refine G_dup (pc := 39) C dX12_init_39 rfl ?_
  refine G_iconst (pc := 40) C (v := 1) dX12_init_40 (by decide) ?_
  refine G_bipush (pc := 41) C (v := 108) dX12_init_41 (by decide) ?_
  obtain ⟨hk, hi, hw⟩ := hw
  refine G_iast (pc := 43) C hk hi dX12_init_43 ?_
  obtain ⟨S13, hS13⟩ : ∃ y : Hp, y = sI S12 0 n10 ((1 : Int32)).toNatClampNeg (108 : Int32) := ⟨_, rfl⟩
  have hw := hw S13 hS13
  rw [← hS13]
  clear hS13
  refine G_dup (pc := 44) C dX12_init_44 rfl ?_
  refine G_iconst (pc := 45) C (v := 2) dX12_init_45 (by decide) ?_
  refine G_bipush (pc := 46) C (v := 108) dX12_init_46 (by decide) ?_
  obtain ⟨hk, hi, hw⟩ := hw
  refine G_iast (pc := 48) C hk hi dX12_init_48 ?_
  obtain ⟨S14, hS14⟩ : ∃ y : Hp, y = sI S13 0 n10 ((2 : Int32)).toNatClampNeg (108 : Int32) := ⟨_, rfl⟩
  have hw := hw S14 hS14
  rw [← hS14]
  clear hS14
  refine G_dup (pc := 49) C dX12_init_49 rfl ?_
  refine G_iconst (pc := 50) C (v := 3) dX12_init_50 (by decide) ?_
  refine G_iconst (pc := 51) C (v := 0) dX12_init_51 (by decide) ?_
  obtain ⟨hk, hi, hw⟩ := hw
  refine G_iast (pc := 52) C hk hi dX12_init_52 ?_
  obtain ⟨S15, hS15⟩ : ∃ y : Hp, y = sI S14 0 n10 ((3 : Int32)).toNatClampNeg (0 : Int32) := ⟨_, rfl⟩
  have hw := hw S15 hS15
  rw [← hS15]
  clear hS15
  refine G_dup (pc := 53) C dX12_init_53 rfl ?_
  refine G_iconst (pc := 54) C (v := 4) dX12_init_54 (by decide) ?_
  refine G_iconst (pc := 55) C (v := 0) dX12_init_55 (by decide) ?_
  obtain ⟨hk, hi, hw⟩ := hw
  refine G_iast (pc := 56) C hk hi dX12_init_56 ?_
  obtain ⟨S16, hS16⟩ : ∃ y : Hp, y = sI S15 0 n10 ((4 : Int32)).toNatClampNeg (0 : Int32) := ⟨_, rfl⟩
  have hw := hw S16 hS16
  rw [← hS16]
  clear hS16
  refine G_dup (pc := 57) C dX12_init_57 rfl ?_
  refine G_iconst (pc := 58) C (v := 5) dX12_init_58 (by decide) ?_
  refine G_iconst (pc := 59) C (v := 0) dX12_init_59 (by decide) ?_
  obtain ⟨hk, hi, hw⟩ := hw
  refine G_iast (pc := 60) C hk hi dX12_init_60 ?_
  obtain ⟨S17, hS17⟩ : ∃ y : Hp, y = sI S16 0 n10 ((5 : Int32)).toNatClampNeg (0 : Int32) := ⟨_, rfl⟩
  have hw := hw S17 hS17
  rw [← hS17]
  clear hS17
  refine G_dup (pc := 61) C dX12_init_61 rfl ?_
  refine G_bipush (pc := 62) C (v := 6) dX12_init_62 (by decide) ?_
  refine G_iconst (pc := 64) C (v := 0) dX12_init_64 (by decide) ?_
  obtain ⟨hk, hi, hw⟩ := hw
  refine G_iast (pc := 65) C hk hi dX12_init_65 ?_
  obtain ⟨S18, hS18⟩ : ∃ y : Hp, y = sI S17 0 n10 ((6 : Int32)).toNatClampNeg (0 : Int32) := ⟨_, rfl⟩
  have hw := hw S18 hS18
  rw [← hS18]
  clear hS18
  refine G_dup (pc := 66) C dX12_init_66 rfl ?_
  refine G_bipush (pc := 67) C (v := 7) dX12_init_67 (by decide) ?_
  refine G_bipush (pc := 69) C (v := 112) dX12_init_69 (by decide) ?_
  obtain ⟨hk, hi, hw⟩ := hw
  refine G_iast (pc := 71) C hk hi dX12_init_71 ?_
  obtain ⟨S19, hS19⟩ : ∃ y : Hp, y = sI S18 0 n10 ((7 : Int32)).toNatClampNeg (112 : Int32) := ⟨_, rfl⟩
  have hw := hw S19 hS19
  rw [← hS19]
  clear hS19
  refine G_dup (pc := 72) C dX12_init_72 rfl ?_
  refine G_bipush (pc := 73) C (v := 8) dX12_init_73 (by decide) ?_
  refine G_bipush (pc := 75) C (v := 97) dX12_init_75 (by decide) ?_
  obtain ⟨hk, hi, hw⟩ := hw
  refine G_iast (pc := 77) C hk hi dX12_init_77 ?_
  obtain ⟨S20, hS20⟩ : ∃ y : Hp, y = sI S19 0 n10 ((8 : Int32)).toNatClampNeg (97 : Int32) := ⟨_, rfl⟩
  have hw := hw S20 hS20
  rw [← hS20]
  clear hS20
  refine G_dup (pc := 78) C dX12_init_78 rfl ?_
  refine G_bipush (pc := 79) C (v := 9) dX12_init_79 (by decide) ?_
  refine G_bipush (pc := 81) C (v := 99) dX12_init_81 (by decide) ?_
  obtain ⟨hk, hi, hw⟩ := hw
  refine G_iast (pc := 83) C hk hi dX12_init_83 ?_
  obtain ⟨S21, hS21⟩ : ∃ y : Hp, y = sI S20 0 n10 ((9 : Int32)).toNatClampNeg (99 : Int32) := ⟨_, rfl⟩
  have hw := hw S21 hS21
  rw [← hS21]
  clear hS21
  refine G_dup (pc := 84) C dX12_init_84 rfl ?_
  refine G_bipush (pc := 85) C (v := 10) dX12_init_85 (by decide) ?_
  refine G_bipush (pc := 87) C (v := 107) dX12_init_87 (by decide) ?_
  obtain ⟨hk, hi, hw⟩ := hw
  refine G_iast (pc := 89) C hk hi dX12_init_89 ?_
  obtain ⟨S22, hS22⟩ : ∃ y : Hp, y = sI S21 0 n10 ((10 : Int32)).toNatClampNeg (107 : Int32) := ⟨_, rfl⟩
  have hw := hw S22 hS22
  rw [← hS22]
  clear hS22
  refine G_dup (pc := 90) C dX12_init_90 rfl ?_
  refine G_bipush (pc := 91) C (v := 11) dX12_init_91 (by decide) ?_
  refine G_bipush (pc := 93) C (v := 101) dX12_init_93 (by decide) ?_
  obtain ⟨hk, hi, hw⟩ := hw
  refine G_iast (pc := 95) C hk hi dX12_init_95 ?_
  obtain ⟨S23, hS23⟩ : ∃ y : Hp, y = sI S22 0 n10 ((11 : Int32)).toNatClampNeg (101 : Int32) := ⟨_, rfl⟩
  have hw := hw S23 hS23
  rw [← hS23]
  clear hS23
  refine G_dup (pc := 96) C dX12_init_96 rfl ?_
  refine G_bipush (pc := 97) C (v := 12) dX12_init_97 (by decide) ?_
  refine G_bipush (pc := 99) C (v := 116) dX12_init_99 (by decide) ?_
  obtain ⟨hk, hi, hw⟩ := hw
  refine G_iast (pc := 101) C hk hi dX12_init_101 ?_
  obtain ⟨S24, hS24⟩ : ∃ y : Hp, y = sI S23 0 n10 ((12 : Int32)).toNatClampNeg (116 : Int32) := ⟨_, rfl⟩
  have hw := hw S24 hS24
  rw [← hS24]
  clear hS24
  refine G_dup (pc := 102) C dX12_init_102 rfl ?_
  refine G_bipush (pc := 103) C (v := 13) dX12_init_103 (by decide) ?_
  refine G_bipush (pc := 105) C (v := 115) dX12_init_105 (by decide) ?_
  obtain ⟨hk, hi, hw⟩ := hw
  refine G_iast (pc := 107) C hk hi dX12_init_107 ?_
  obtain ⟨S25, hS25⟩ : ∃ y : Hp, y = sI S24 0 n10 ((13 : Int32)).toNatClampNeg (115 : Int32) := ⟨_, rfl⟩
  have hw := hw S25 hS25
  rw [← hS25]
  clear hS25
  refine G_dup (pc := 108) C dX12_init_108 rfl ?_
  refine G_bipush (pc := 109) C (v := 14) dX12_init_109 (by decide) ?_
  refine G_bipush (pc := 111) C (v := 114) dX12_init_111 (by decide) ?_
  obtain ⟨hk, hi, hw⟩ := hw
  refine G_iast (pc := 113) C hk hi dX12_init_113 ?_
  obtain ⟨S26, hS26⟩ : ∃ y : Hp, y = sI S25 0 n10 ((14 : Int32)).toNatClampNeg (114 : Int32) := ⟨_, rfl⟩
  have hw := hw S26 hS26
  rw [← hS26]
  clear hS26
  refine G_dup (pc := 114) C dX12_init_114 rfl ?_
  refine G_bipush (pc := 115) C (v := 15) dX12_init_115 (by decide) ?_
  refine G_bipush (pc := 117) C (v := 111) dX12_init_117 (by decide) ?_
  obtain ⟨hk, hi, hw⟩ := hw
  refine G_iast (pc := 119) C hk hi dX12_init_119 ?_
  obtain ⟨S27, hS27⟩ : ∃ y : Hp, y = sI S26 0 n10 ((15 : Int32)).toNatClampNeg (111 : Int32) := ⟨_, rfl⟩
  have hw := hw S27 hS27
  rw [← hS27]
  clear hS27
  refine G_dup (pc := 120) C dX12_init_120 rfl ?_
  refine G_bipush (pc := 121) C (v := 16) dX12_init_121 (by decide) ?_
  refine G_bipush (pc := 123) C (v := 111) dX12_init_123 (by decide) ?_
  obtain ⟨hk, hi, hw⟩ := hw
  refine G_iast (pc := 125) C hk hi dX12_init_125 ?_
  obtain ⟨S28, hS28⟩ : ∃ y : Hp, y = sI S27 0 n10 ((16 : Int32)).toNatClampNeg (111 : Int32) := ⟨_, rfl⟩
  have hw := hw S28 hS28
  rw [← hS28]
  clear hS28
  refine G_dup (pc := 126) C dX12_init_126 rfl ?_
  refine G_bipush (pc := 127) C (v := 17) dX12_init_127 (by decide) ?_
  refine G_bipush (pc := 129) C (v := 109) dX12_init_129 (by decide) ?_
  obtain ⟨hk, hi, hw⟩ := hw
  refine G_iast (pc := 131) C hk hi dX12_init_131 ?_
  obtain ⟨S29, hS29⟩ : ∃ y : Hp, y = sI S28 0 n10 ((17 : Int32)).toNatClampNeg (109 : Int32) := ⟨_, rfl⟩
  have hw := hw S29 hS29
  rw [← hS29]
  clear hS29
  refine G_dup (pc := 132) C dX12_init_132 rfl ?_
  refine G_bipush (pc := 133) C (v := 18) dX12_init_133 (by decide) ?_
  refine G_iconst (pc := 135) C (v := 0) dX12_init_135 (by decide) ?_
  obtain ⟨hk, hi, hw⟩ := hw
  refine G_iast (pc := 136) C hk hi dX12_init_136 ?_
  obtain ⟨S30, hS30⟩ : ∃ y : Hp, y = sI S29 0 n10 ((18 : Int32)).toNatClampNeg (0 : Int32) := ⟨_, rfl⟩
  have hw := hw S30 hS30
  rw [← hS30]
  clear hS30
  refine G_dup (pc := 137) C dX12_init_137 rfl ?_
  refine G_bipush (pc := 138) C (v := 19) dX12_init_138 (by decide) ?_
  refine G_iconst (pc := 140) C (v := 0) dX12_init_140 (by decide) ?_
  obtain ⟨hk, hi, hw⟩ := hw
  refine G_iast (pc := 141) C hk hi dX12_init_141 ?_
  obtain ⟨S31, hS31⟩ : ∃ y : Hp, y = sI S30 0 n10 ((19 : Int32)).toNatClampNeg (0 : Int32) := ⟨_, rfl⟩
  have hw := hw S31 hS31
  rw [← hS31]
  clear hS31
  refine G_dup (pc := 142) C dX12_init_142 rfl ?_
  refine G_bipush (pc := 143) C (v := 20) dX12_init_143 (by decide) ?_
  refine G_iconst (pc := 145) C (v := 0) dX12_init_145 (by decide) ?_
  obtain ⟨hk, hi, hw⟩ := hw
  refine G_iast (pc := 146) C hk hi dX12_init_146 ?_
  obtain ⟨S32, hS32⟩ : ∃ y : Hp, y = sI S31 0 n10 ((20 : Int32)).toNatClampNeg (0 : Int32) := ⟨_, rfl⟩
  have hw := hw S32 hS32
  rw [← hS32]
  clear hS32
  refine G_dup (pc := 147) C dX12_init_147 rfl ?_
  refine G_bipush (pc := 148) C (v := 21) dX12_init_148 (by decide) ?_
  refine G_bipush (pc := 150) C (v := 112) dX12_init_150 (by decide) ?_
  obtain ⟨hk, hi, hw⟩ := hw
  refine G_iast (pc := 152) C hk hi dX12_init_152 ?_
  obtain ⟨S33, hS33⟩ : ∃ y : Hp, y = sI S32 0 n10 ((21 : Int32)).toNatClampNeg (112 : Int32) := ⟨_, rfl⟩
  have hw := hw S33 hS33
  rw [← hS33]
  clear hS33
  refine G_dup (pc := 153) C dX12_init_153 rfl ?_
  refine G_bipush (pc := 154) C (v := 22) dX12_init_154 (by decide) ?_
  refine G_bipush (pc := 156) C (v := 97) dX12_init_156 (by decide) ?_
  obtain ⟨hk, hi, hw⟩ := hw
  refine G_iast (pc := 158) C hk hi dX12_init_158 ?_
  obtain ⟨S34, hS34⟩ : ∃ y : Hp, y = sI S33 0 n10 ((22 : Int32)).toNatClampNeg (97 : Int32) := ⟨_, rfl⟩
  have hw := hw S34 hS34
  rw [← hS34]
  clear hS34
  refine G_dup (pc := 159) C dX12_init_159 rfl ?_
  refine G_bipush (pc := 160) C (v := 23) dX12_init_160 (by decide) ?_
  refine G_bipush (pc := 162) C (v := 114) dX12_init_162 (by decide) ?_
  obtain ⟨hk, hi, hw⟩ := hw
  refine G_iast (pc := 164) C hk hi dX12_init_164 ?_
  obtain ⟨S35, hS35⟩ : ∃ y : Hp, y = sI S34 0 n10 ((23 : Int32)).toNatClampNeg (114 : Int32) := ⟨_, rfl⟩
  have hw := hw S35 hS35
  rw [← hS35]
  clear hS35
  refine G_dup (pc := 165) C dX12_init_165 rfl ?_
  refine G_bipush (pc := 166) C (v := 24) dX12_init_166 (by decide) ?_
  refine G_bipush (pc := 168) C (v := 116) dX12_init_168 (by decide) ?_
  obtain ⟨hk, hi, hw⟩ := hw
  refine G_iast (pc := 170) C hk hi dX12_init_170 ?_
  obtain ⟨S36, hS36⟩ : ∃ y : Hp, y = sI S35 0 n10 ((24 : Int32)).toNatClampNeg (116 : Int32) := ⟨_, rfl⟩
  have hw := hw S36 hS36
  rw [← hS36]
  clear hS36
  refine G_dup (pc := 171) C dX12_init_171 rfl ?_
  refine G_bipush (pc := 172) C (v := 25) dX12_init_172 (by decide) ?_
  refine G_iconst (pc := 174) C (v := 0) dX12_init_174 (by decide) ?_
  obtain ⟨hk, hi, hw⟩ := hw
  refine G_iast (pc := 175) C hk hi dX12_init_175 ?_
  obtain ⟨S37, hS37⟩ : ∃ y : Hp, y = sI S36 0 n10 ((25 : Int32)).toNatClampNeg (0 : Int32) := ⟨_, rfl⟩
  have hw := hw S37 hS37
  rw [← hS37]
  clear hS37
  refine G_dup (pc := 176) C dX12_init_176 rfl ?_
  refine G_bipush (pc := 177) C (v := 26) dX12_init_177 (by decide) ?_
  refine G_iconst (pc := 179) C (v := 0) dX12_init_179 (by decide) ?_
  obtain ⟨hk, hi, hw⟩ := hw
  refine G_iast (pc := 180) C hk hi dX12_init_180 ?_
  obtain ⟨S38, hS38⟩ : ∃ y : Hp, y = sI S37 0 n10 ((26 : Int32)).toNatClampNeg (0 : Int32) := ⟨_, rfl⟩
  have hw := hw S38 hS38
  rw [← hS38]
  clear hS38
  refine G_dup (pc := 181) C dX12_init_181 rfl ?_
  refine G_bipush (pc := 182) C (v := 27) dX12_init_182 (by decide) ?_
  refine G_iconst (pc := 184) C (v := 0) dX12_init_184 (by decide) ?_
  obtain ⟨hk, hi, hw⟩ := hw
  refine G_iast (pc := 185) C hk hi dX12_init_185 ?_
  obtain ⟨S39, hS39⟩ : ∃ y : Hp, y = sI S38 0 n10 ((27 : Int32)).toNatClampNeg (0 : Int32) := ⟨_, rfl⟩
  have hw := hw S39 hS39
  rw [← hS39]
  clear hS39
  obtain ⟨hk, hw⟩ := hw
  refine pf_RX12_19 (pc := 186) C rfl (v := some n10) dX12_init_186 hk ?_
  obtain ⟨S40, hS40⟩ : ∃ y : Hp, y = sR S39 203 a0 0 (some n10) := ⟨_, rfl⟩
  have hw := hw S40 hS40
  rw [← hS40]
  clear hS40
  refine G_aload_n (pc := 189) C 0 dX12_init_189 rfl rfl ?_
  refine G_bipush (pc := 190) C (v := 8) dX12_init_190 (by decide) ?_
  obtain ⟨hb1, hb2, hw⟩ := hw
  refine G_less (bc' := (((((7 - 1) - 1) - 1) - 1) - 1) + 1) (bs' := (((((7464 - 6930) - 200) - 2) - 28) - 8) + 8) (by omega) (by omega) ?_
  refine G_newa (pc := 192) C (n := (8 : Int32)) 8 w_aI (by decide) (by decide) (by decide) dX12_init_192 ?_
  obtain ⟨n41, hn41⟩ : ∃ y : Nat, y = sz S40 := ⟨_, rfl⟩
  obtain ⟨S42, hS42⟩ : ∃ y : Hp, y = nw S40 20 (8) := ⟨_, rfl⟩
  have hw := hw n41 hn41 S42 hS42
  rw [← hn41]
  rw [← hS42]
  clear hn41 hS42
  obtain ⟨hk, hw⟩ := hw
  refine pf_RX12_22 (pc := 194) C rfl (v := some n41) dX12_init_194 hk ?_
  obtain ⟨S43, hS43⟩ : ∃ y : Hp, y = sR S42 204 a0 0 (some n41) := ⟨_, rfl⟩
  have hw := hw S43 hS43
  rw [← hS43]
  clear hS43
  refine G_aload_n (pc := 197) C 0 dX12_init_197 rfl rfl ?_
  refine G_bipush (pc := 198) C (v := 9) dX12_init_198 (by decide) ?_
  obtain ⟨hb1, hb2, hw⟩ := hw
  refine G_less (bc' := ((((((7 - 1) - 1) - 1) - 1) - 1) - 1) + 1) (bs' := ((((((7464 - 6930) - 200) - 2) - 28) - 8) - 9) + 9) (by omega) (by omega) ?_
  refine G_newa (pc := 200) C (n := (9 : Int32)) 9 w_aI (by decide) (by decide) (by decide) dX12_init_200 ?_
  obtain ⟨n44, hn44⟩ : ∃ y : Nat, y = sz S43 := ⟨_, rfl⟩
  obtain ⟨S45, hS45⟩ : ∃ y : Hp, y = nw S43 20 (9) := ⟨_, rfl⟩
  have hw := hw n44 hn44 S45 hS45
  rw [← hn44]
  rw [← hS45]
  clear hn44 hS45
  obtain ⟨hk, hw⟩ := hw
  refine pf_RX12_25 (pc := 202) C rfl (v := some n44) dX12_init_202 hk ?_
  obtain ⟨S46, hS46⟩ : ∃ y : Hp, y = sR S45 205 a0 0 (some n44) := ⟨_, rfl⟩
  have hw := hw S46 hS46
  rw [← hS46]
  clear hS46
  refine G_aload_n (pc := 205) C 0 dX12_init_205 rfl rfl ?_
  refine G_sipush (pc := 206) C (v := 287) dX12_init_206 (by decide) ?_
  obtain ⟨hb1, hb2, hw⟩ := hw
  refine G_less (bc' := (((((((7 - 1) - 1) - 1) - 1) - 1) - 1) - 1) + 1) (bs' := (((((((7464 - 6930) - 200) - 2) - 28) - 8) - 9) - 287) + 287) (by omega) (by omega) ?_
  refine G_newa (pc := 209) C (n := (287 : Int32)) 287 w_aI (by decide) (by decide) (by decide) dX12_init_209 ?_
  obtain ⟨n47, hn47⟩ : ∃ y : Nat, y = sz S46 := ⟨_, rfl⟩
  obtain ⟨S48, hS48⟩ : ∃ y : Hp, y = nw S46 20 (287) := ⟨_, rfl⟩
  have hw := hw n47 hn47 S48 hS48
  rw [← hn47]
  rw [← hS48]
  clear hn47 hS48
  obtain ⟨hk, hw⟩ := hw
  refine pf_RX12_28 (pc := 211) C rfl (v := some n47) dX12_init_211 hk ?_
  obtain ⟨S49, hS49⟩ : ∃ y : Hp, y = sR S48 206 a0 0 (some n47) := ⟨_, rfl⟩
  have hw := hw S49 hS49
  rw [← hS49]
  clear hS49
  refine G_aload_n (pc := 214) C 0 dX12_init_214 rfl rfl ?_
  obtain ⟨hk, hw⟩ := hw
  refine gf_RX12_7 (pc := 215) C dX12_init_215 hk ?_
  refine G_iconst (pc := 218) C (v := 0) dX12_init_218 (by decide) ?_
  refine G_iconst (pc := 219) C (v := 4) dX12_init_219 (by decide) ?_
  obtain ⟨b50, hq, hw⟩ := hw
  rw [hq]
  obtain ⟨hk, hi, hw⟩ := hw
  refine G_iast (pc := 220) C hk hi dX12_init_220 ?_
  obtain ⟨S51, hS51⟩ : ∃ y : Hp, y = sI S49 0 b50 ((0 : Int32)).toNatClampNeg (4 : Int32) := ⟨_, rfl⟩
  have hw := hw S51 hS51
  rw [← hS51]
  clear hS51
  refine G_aload_n (pc := 221) C 0 dX12_init_221 rfl rfl ?_
  obtain ⟨hk, hw⟩ := hw
  refine gf_RX12_7 (pc := 222) C dX12_init_222 hk ?_
  refine G_iconst (pc := 225) C (v := 1) dX12_init_225 (by decide) ?_
  refine G_bipush (pc := 226) C (v := 20) dX12_init_226 (by decide) ?_
  obtain ⟨b52, hq, hw⟩ := hw
  rw [hq]
  obtain ⟨hk, hi, hw⟩ := hw
  refine G_iast (pc := 228) C hk hi dX12_init_228 ?_
  obtain ⟨S53, hS53⟩ : ∃ y : Hp, y = sI S51 0 b52 ((1 : Int32)).toNatClampNeg (20 : Int32) := ⟨_, rfl⟩
  have hw := hw S53 hS53
  rw [← hS53]
  clear hS53
  exact G_vret (pc := 229) C rfl dX12_init_229 ⟨rfl, hw⟩
/-! FirstPartsModel.in(JJJ)Z -/
abbrev wp_X12_in_18  (Q : Int32 → Prop) (s0 : Int32) (S : Hp) : Prop :=
  (s0 = 0 ∨ s0 = 1) ∧ Q s0
abbrev wp_X12_in_17  (Q : Int32 → Prop)  (S : Hp) : Prop :=
  wp_X12_in_18 Q ((0 : Int32)) (S)
abbrev wp_X12_in (y0 : Int64) (y2 : Int64) (y4 : Int64) (S : Hp) (Q : Int32 → Prop) : Prop :=
  (((lg_cmp y0 y2) < 0 → wp_X12_in_17 Q (S)) ∧ (¬ (lg_cmp y0 y2) < 0 → ((0 < (lg_cmp y0 y4) → wp_X12_in_17 Q (S)) ∧ (¬ 0 < (lg_cmp y0 y4) → wp_X12_in_18 Q ((1 : Int32)) (S)))))
set_option maxHeartbeats 4000000 in
set_option maxRecDepth 100000 in
theorem g_X12_in_18 (C : Cx p s m args meth c z cX12_in 6 RX12 (some .boolean) "in")  {Q : Int32 → Prop} {s0 : Int32} {S : Hp}   (hw : wp_X12_in_18  Q s0 S) : Go p l e { frames := 0, cells := 0, slots := 0, locals := 0 } s m args below meth c z 6 (MQ below (Qx z (pI S Q)) args s 0 0 (own z)) (0) (0) 18 [] [.int (s0)] (S) := by
  obtain ⟨hb, hw⟩ := hw
  exact G_zret (pc := 18) C rfl hb dX12_in_18 ⟨rfl, _, rfl, hw⟩
set_option maxHeartbeats 4000000 in
set_option maxRecDepth 100000 in
theorem g_X12_in_17 (C : Cx p s m args meth c z cX12_in 6 RX12 (some .boolean) "in")  {Q : Int32 → Prop}  {S : Hp}   (hw : wp_X12_in_17  Q  S) : Go p l e { frames := 0, cells := 0, slots := 0, locals := 0 } s m args below meth c z 6 (MQ below (Qx z (pI S Q)) args s 0 0 (own z)) (0) (0) 17 [] [] (S) := by
  refine G_iconst (pc := 17) C (v := 0) dX12_in_17 (by decide) ?_
  exact G_sub [] rfl (g_X12_in_18 C  hw)
set_option maxHeartbeats 4000000 in
set_option maxRecDepth 100000 in
theorem c_X12_in (l : Launch) (z : Zt) (y0 : Int64) (y2 : Int64) (y4 : Int64) (S : Hp) (Q : Int32 → Prop) (hw : wp_X12_in y0 y2 y4 S Q) : Ct l z yX12_in cX12_in 6 (some .boolean) 0 0 0 0 [.long (y0), .long (y2), .long (y4)] S (pI S Q) := by
  refine Ct_of (by decide) (Nat.le_of_ble_eq_true rfl) ?_
  intro p e s m args below meth c C
  have C : Cx p s m args meth c z cX12_in 6 RX12 (some .boolean) "in" := C
  refine G_sub (lv' := [(0, .long (y0)), (2, .long (y2)), (4, .long (y4))]) [0, 1, 2] rfl ?_
  refine G_lload_n (pc := 0) C 0 dX12_in_0 rfl rfl ?_
  refine G_lload_n (pc := 1) C 1 dX12_in_1 rfl rfl ?_
  refine G_lcmp (pc := 2) C dX12_in_2 ?_
  refine G_if_lt (pc := 3) C 17 dX12_in_3 (by decide) (fun hc => ?_) (fun hc => ?_)
  · have hw := hw.1 hc
    exact G_sub [] rfl (g_X12_in_17 C  hw)
  · have hw := hw.2 hc
    refine G_lload_n (pc := 6) C 0 dX12_in_6 rfl rfl ?_
    refine G_lload (pc := 7) C 2 dX12_in_7 rfl ?_
    refine G_lcmp (pc := 9) C dX12_in_9 ?_
    refine G_if_gt (pc := 10) C 17 dX12_in_10 (by decide) (fun hc => ?_) (fun hc => ?_)
    · have hw := hw.1 hc
      exact G_sub [] rfl (g_X12_in_17 C  hw)
    · have hw := hw.2 hc
      refine G_iconst (pc := 13) C (v := 1) dX12_in_13 (by decide) ?_
      refine G_goto (pc := 14) C 18 dX12_in_14 (by decide) ?_
      exact G_sub [] rfl (g_X12_in_18 C  hw)
/-! FirstPartsModel.isPart(I)Z -/
abbrev wp_X12_isPart (a0 : Nat) (x1 : Int32) (S : Hp) (Q : Int32 → Prop) : Prop :=
  kd S a0 = 13 ∧ ∃ b1, (gR S 193 a0 0) = some b1 ∧ kd S b1 = 20 ∧ vp_in (2 : Int32) (ln S b1) ∧ wp_X12_in ((x1).toInt64) ((0 : Int64)) ((((gI S 0 b1 ((2 : Int32)).toNatClampNeg) - (1 : Int32))).toInt64) S (fun e2 => (e2 = 0 ∨ e2 = 1) ∧ Q e2)
set_option maxHeartbeats 4000000 in
set_option maxRecDepth 100000 in
theorem c_X12_isPart (l : Launch) (z : Zt) (a0 : Nat) (x1 : Int32) (S : Hp) (Q : Int32 → Prop) (hw : wp_X12_isPart a0 x1 S Q) : Ct l z yX12_isPart cX12_isPart 2 (some .boolean) 1 25 0 0 [.ref (a0), .int (x1)] S (pI S Q) := by
  refine Ct_of (by decide) (Nat.le_of_ble_eq_true rfl) ?_
  intro p e s m args below meth c C
  have C : Cx p s m args meth c z cX12_isPart 2 RX12 (some .boolean) "isPart" := C
  refine G_sub (lv' := [(0, .ref (a0)), (1, .int (x1))]) [0, 1] rfl ?_
  refine G_iload_n (pc := 0) C 1 dX12_isPart_0 rfl rfl ?_
  refine G_i2l (pc := 1) C dX12_isPart_1 ?_
  refine G_lconst (pc := 2) C (v := 0) dX12_isPart_2 (by decide) ?_
  refine G_aload_n (pc := 3) C 0 dX12_isPart_3 rfl rfl ?_
  obtain ⟨hk, hw⟩ := hw
  refine gf_RX12_7 (pc := 4) C dX12_isPart_4 hk ?_
  refine G_iconst (pc := 7) C (v := 2) dX12_isPart_7 (by decide) ?_
  obtain ⟨b1, hq, hw⟩ := hw
  rw [hq]
  obtain ⟨hk, hi, hw⟩ := hw
  refine G_iald (pc := 8) C hk hi dX12_isPart_8 ?_
  refine G_iconst (pc := 9) C (v := 1) dX12_isPart_9 (by decide) ?_
  refine G_isub (pc := 10) C dX12_isPart_10 ?_
  refine G_i2l (pc := 11) C dX12_isPart_11 ?_
  refine cl_RX12_31 (pc := 12) C (c_X12_in l z ((x1).toInt64) ((0 : Int64)) ((((gI S 0 b1 ((2 : Int32)).toNatClampNeg) - (1 : Int32))).toInt64) S _ hw) ⟨Nat.le_of_ble_eq_true rfl, Nat.le_of_ble_eq_true rfl⟩ dX12_isPart_12 (Nat.le_of_ble_eq_true rfl) (fun v S' hp => ?_)
  clear hw
  obtain ⟨hS, e2, rfl, hw⟩ := hp
  subst S'
  obtain ⟨hb, hw⟩ := hw
  exact G_zret (pc := 15) C rfl hb dX12_isPart_15 ⟨rfl, _, rfl, hw⟩
/-! FirstPartsModel.at(I)I -/
abbrev wp_X12_at (x0 : Int32) (S : Hp) (Q : Int32 → Prop) : Prop :=
  Q ((3 : Int32) + ((15 : Int32) * x0))
set_option maxHeartbeats 4000000 in
set_option maxRecDepth 100000 in
theorem c_X12_at (l : Launch) (z : Zt) (x0 : Int32) (S : Hp) (Q : Int32 → Prop) (hw : wp_X12_at x0 S Q) : Ct l z yX12_at cX12_at 1 (some .int) 0 0 0 0 [.int (x0)] S (pI S Q) := by
  refine Ct_of (by decide) (Nat.le_of_ble_eq_true rfl) ?_
  intro p e s m args below meth c C
  have C : Cx p s m args meth c z cX12_at 1 RX12 (some .int) "at" := C
  refine G_sub (lv' := [(0, .int (x0))]) [0] rfl ?_
  refine G_iconst (pc := 0) C (v := 3) dX12_at_0 (by decide) ?_
  refine G_bipush (pc := 1) C (v := 15) dX12_at_1 (by decide) ?_
  refine G_iload_n (pc := 3) C 0 dX12_at_3 rfl rfl ?_
  refine G_imul (pc := 4) C dX12_at_4 ?_
  refine G_iadd (pc := 5) C dX12_at_5 ?_
  exact G_iret (pc := 6) C rfl dX12_at_6 ⟨rfl, _, rfl, hw⟩
/-! FirstPartsModel.stripes(II)I -/
abbrev wp_X12_stripes (x0 : Int32) (x1 : Int32) (S : Hp) (Q : Int32 → Prop) : Prop :=
  ¬ x1 = 0 ∧ Q (((x0 + x1) - (1 : Int32)) / x1)
set_option maxHeartbeats 4000000 in
set_option maxRecDepth 100000 in
theorem c_X12_stripes (l : Launch) (z : Zt) (x0 : Int32) (x1 : Int32) (S : Hp) (Q : Int32 → Prop) (hw : wp_X12_stripes x0 x1 S Q) : Ct l z yX12_stripes cX12_stripes 2 (some .int) 0 0 0 0 [.int (x0), .int (x1)] S (pI S Q) := by
  refine Ct_of (by decide) (Nat.le_of_ble_eq_true rfl) ?_
  intro p e s m args below meth c C
  have C : Cx p s m args meth c z cX12_stripes 2 RX12 (some .int) "stripes" := C
  refine G_sub (lv' := [(0, .int (x0)), (1, .int (x1))]) [0, 1] rfl ?_
  refine G_iload_n (pc := 0) C 0 dX12_stripes_0 rfl rfl ?_
  refine G_iload_n (pc := 1) C 1 dX12_stripes_1 rfl rfl ?_
  refine G_iadd (pc := 2) C dX12_stripes_2 ?_
  refine G_iconst (pc := 3) C (v := 1) dX12_stripes_3 (by decide) ?_
  refine G_isub (pc := 4) C dX12_stripes_4 ?_
  refine G_iload_n (pc := 5) C 1 dX12_stripes_5 rfl rfl ?_
  obtain ⟨h0, hw⟩ := hw
  refine G_idiv (pc := 6) C dX12_stripes_6 h0 ?_
  exact G_iret (pc := 7) C rfl dX12_stripes_7 ⟨rfl, _, rfl, hw⟩
/-! FirstPartsModel.stripesOf(I)I -/
abbrev wp_X12_stripesOf (a0 : Nat) (x1 : Int32) (S : Hp) (Q : Int32 → Prop) : Prop :=
  kd S a0 = 13 ∧ ∃ b3, (gR S 193 a0 0) = some b3 ∧ wp_X12_at (x1) S (fun e1 => kd S b3 = 20 ∧ vp_in (e1 + (0 : Int32)) (ln S b3) ∧ kd S a0 = 13 ∧ ∃ b6, (gR S 193 a0 0) = some b6 ∧ wp_X12_at (x1) S (fun e4 => kd S b6 = 20 ∧ vp_in (e4 + (1 : Int32)) (ln S b6) ∧ wp_X12_stripes ((gI S 0 b3 ((e1 + (0 : Int32))).toNatClampNeg)) ((gI S 0 b6 ((e4 + (1 : Int32))).toNatClampNeg)) S (fun e7 => Q e7)))
set_option maxHeartbeats 4000000 in
set_option maxRecDepth 100000 in
theorem c_X12_stripesOf (l : Launch) (z : Zt) (a0 : Nat) (x1 : Int32) (S : Hp) (Q : Int32 → Prop) (hw : wp_X12_stripesOf a0 x1 S Q) : Ct l z yX12_stripesOf cX12_stripesOf 2 (some .int) 1 21 0 0 [.ref (a0), .int (x1)] S (pI S Q) := by
  refine Ct_of (by decide) (Nat.le_of_ble_eq_true rfl) ?_
  intro p e s m args below meth c C
  have C : Cx p s m args meth c z cX12_stripesOf 2 RX12 (some .int) "stripesOf" := C
  refine G_sub (lv' := [(0, .ref (a0)), (1, .int (x1))]) [0, 1] rfl ?_
  refine G_aload_n (pc := 0) C 0 dX12_stripesOf_0 rfl rfl ?_
  obtain ⟨hk, hw⟩ := hw
  refine gf_RX12_7 (pc := 1) C dX12_stripesOf_1 hk ?_
  refine G_iload_n (pc := 4) C 1 dX12_stripesOf_4 rfl rfl ?_
  obtain ⟨b3, hq, hw⟩ := hw
  rw [hq]
  refine cl_RX12_35 (pc := 5) C (c_X12_at l z (x1) S _ hw) ⟨Nat.le_of_ble_eq_true rfl, Nat.le_of_ble_eq_true rfl⟩ dX12_stripesOf_5 (Nat.le_of_ble_eq_true rfl) (fun v S' hp => ?_)
  clear hw
  obtain ⟨hS, e1, rfl, hw⟩ := hp
  subst S'
  refine G_iconst (pc := 8) C (v := 0) dX12_stripesOf_8 (by decide) ?_
  refine G_iadd (pc := 9) C dX12_stripesOf_9 ?_
  obtain ⟨hk, hi, hw⟩ := hw
  refine G_iald (pc := 10) C hk hi dX12_stripesOf_10 ?_
  refine G_aload_n (pc := 11) C 0 dX12_stripesOf_11 rfl rfl ?_
  obtain ⟨hk, hw⟩ := hw
  refine gf_RX12_7 (pc := 12) C dX12_stripesOf_12 hk ?_
  refine G_iload_n (pc := 15) C 1 dX12_stripesOf_15 rfl rfl ?_
  obtain ⟨b6, hq, hw⟩ := hw
  rw [hq]
  refine cl_RX12_35 (pc := 16) C (c_X12_at l z (x1) S _ hw) ⟨Nat.le_of_ble_eq_true rfl, Nat.le_of_ble_eq_true rfl⟩ dX12_stripesOf_16 (Nat.le_of_ble_eq_true rfl) (fun v S' hp => ?_)
  clear hw
  obtain ⟨hS, e4, rfl, hw⟩ := hp
  subst S'
  refine G_iconst (pc := 19) C (v := 1) dX12_stripesOf_19 (by decide) ?_
  refine G_iadd (pc := 20) C dX12_stripesOf_20 ?_
  obtain ⟨hk, hi, hw⟩ := hw
  refine G_iald (pc := 21) C hk hi dX12_stripesOf_21 ?_
  refine cl_RX12_39 (pc := 22) C (c_X12_stripes l z ((gI S 0 b3 ((e1 + (0 : Int32))).toNatClampNeg)) ((gI S 0 b6 ((e4 + (1 : Int32))).toNatClampNeg)) S _ hw) ⟨Nat.le_of_ble_eq_true rfl, Nat.le_of_ble_eq_true rfl⟩ dX12_stripesOf_22 (Nat.le_of_ble_eq_true rfl) (fun v S' hp => ?_)
  clear hw
  obtain ⟨hS, e7, rfl, hw⟩ := hp
  subst S'
  exact G_iret (pc := 25) C rfl dX12_stripesOf_25 ⟨rfl, _, rfl, hw⟩
/-! FirstPartsModel.lengthOf(I)I -/
abbrev wp_X12_lengthOf_33 (K4 : Int32 → Int32 → Prop) (Q : Int32 → Prop) (v0 : Nat) (v1 : Int32) (v3 : Int32) (s0 : Int32) (s1 : Int32) (S : Hp) : Prop :=
  ∀ e2 : Int32, e2 = (s1 + s0) → ∀ e3 : Int32, e3 = (v3 + 1) → K4 (e2) (e3)
abbrev wb_X12_lengthOf_4  (K4 : Int32 → Int32 → Prop) (Q : Int32 → Prop) (v0 : Nat) (v1 : Int32) (v2 : Int32) (v3 : Int32) (S : Hp) : Prop :=
  kd S v0 = 13 ∧ ∃ b1, (gR S 193 v0 0) = some b1 ∧ kd S b1 = 20 ∧ vp_in (2 : Int32) (ln S b1) ∧ (((gI S 0 b1 ((2 : Int32)).toNatClampNeg) ≤ v3 → Q v2) ∧ (¬ (gI S 0 b1 ((2 : Int32)).toNatClampNeg) ≤ v3 → ((((v1 >>> (v3 &&& 31)) &&& (1 : Int32)) ≠ (1 : Int32) → wp_X12_lengthOf_33 K4 Q (v0) (v1) (v3) ((0 : Int32)) (v2) (S)) ∧ (((v1 >>> (v3 &&& 31)) &&& (1 : Int32)) = (1 : Int32) → kd S v0 = 13 ∧ wp_X12_stripesOf (v0) (v3) S (fun e4 => wp_X12_lengthOf_33 K4 Q (v0) (v1) (v3) (e4) (v2) (S))))))
abbrev wp_X12_lengthOf_4  (Q : Int32 → Prop) (v0 : Nat) (v1 : Int32) (v2 : Int32) (v3 : Int32) (S : Hp) : Prop :=
  Lp (X := Int32 × Int32) (fun K y => wb_X12_lengthOf_4  (fun w0 w1 => K (w0, w1)) Q v0 v1 y.1 y.2 S) (v2, v3)
abbrev wp_X12_lengthOf (a0 : Nat) (x1 : Int32) (S : Hp) (Q : Int32 → Prop) : Prop :=
  wp_X12_lengthOf_4 Q (a0) (x1) ((0 : Int32)) ((0 : Int32)) (S)
set_option maxHeartbeats 4000000 in
set_option maxRecDepth 100000 in
theorem g_X12_lengthOf_33 (C : Cx p s m args meth c z cX12_lengthOf 4 RX12 (some .int) "lengthOf") {K4 : Int32 → Int32 → Prop} {Q : Int32 → Prop} {v0 : Nat} {v1 : Int32} {v3 : Int32} {s0 : Int32} {s1 : Int32} {S : Hp}  (hK4 : ∀ (w2 : Int32) (w3 : Int32), K4 w2 w3 → Go p l e { frames := 2, cells := 0, slots := 0, locals := 42 } s m args below meth c z 4 (MQ below (Qx z (pI S Q)) args s 0 0 (own z)) (0) (0) 4 [(0, .ref (v0)), (1, .int (v1)), (2, .int (w2)), (3, .int (w3))] [] (S)) (hw : wp_X12_lengthOf_33 K4 Q v0 v1 v3 s0 s1 S) : Go p l e { frames := 2, cells := 0, slots := 0, locals := 42 } s m args below meth c z 4 (MQ below (Qx z (pI S Q)) args s 0 0 (own z)) (0) (0) 33 [(0, .ref (v0)), (1, .int (v1)), (3, .int (v3))] [.int (s0), .int (s1)] (S) := by
  refine G_iadd (pc := 33) C dX12_lengthOf_33 ?_
  refine G_topi (fun e2 he2 => ?_)
  have hw := hw e2 he2
  clear he2
  refine G_istore_n (pc := 34) C [(2, .int (e2)), (0, .ref (v0)), (1, .int (v1)), (3, .int (v3))] dX12_lengthOf_34 rfl (by decide) rfl ?_
  obtain ⟨e3, he3⟩ : ∃ y : Int32, y = (v3 + 1) := ⟨_, rfl⟩
  have hw := hw e3 he3
  refine G_iinc (pc := 35) C [(3, .int (e3)), (2, .int (e2)), (0, .ref (v0)), (1, .int (v1))] 3 (v := e3) dX12_lengthOf_35 rfl (by rw [he3]; rfl) (by decide) rfl ?_
  clear he3
  refine G_goto (pc := 38) C 4 dX12_lengthOf_38 (by decide) ?_
  exact G_sub [2, 3, 1, 0] rfl (hK4 _ _ hw)
set_option maxHeartbeats 4000000 in
set_option maxRecDepth 100000 in
theorem gb_X12_lengthOf_4 (C : Cx p s m args meth c z cX12_lengthOf 4 RX12 (some .int) "lengthOf") {K4 : Int32 → Int32 → Prop} {Q : Int32 → Prop} {v0 : Nat} {v1 : Int32} {v2 : Int32} {v3 : Int32} {S : Hp}  (hK4 : ∀ (w2 : Int32) (w3 : Int32), K4 w2 w3 → Go p l e { frames := 2, cells := 0, slots := 0, locals := 42 } s m args below meth c z 4 (MQ below (Qx z (pI S Q)) args s 0 0 (own z)) (0) (0) 4 [(0, .ref (v0)), (1, .int (v1)), (2, .int (w2)), (3, .int (w3))] [] (S)) (hw : wb_X12_lengthOf_4  K4 Q v0 v1 v2 v3 S) : Go p l e { frames := 2, cells := 0, slots := 0, locals := 42 } s m args below meth c z 4 (MQ below (Qx z (pI S Q)) args s 0 0 (own z)) (0) (0) 4 [(0, .ref (v0)), (1, .int (v1)), (2, .int (v2)), (3, .int (v3))] [] (S) := by
  refine G_iload_n (pc := 4) C 3 dX12_lengthOf_4 rfl rfl ?_
  refine G_aload_n (pc := 5) C 0 dX12_lengthOf_5 rfl rfl ?_
  obtain ⟨hk, hw⟩ := hw
  refine gf_RX12_7 (pc := 6) C dX12_lengthOf_6 hk ?_
  refine G_iconst (pc := 9) C (v := 2) dX12_lengthOf_9 (by decide) ?_
  obtain ⟨b1, hq, hw⟩ := hw
  rw [hq]
  obtain ⟨hk, hi, hw⟩ := hw
  refine G_iald (pc := 10) C hk hi dX12_lengthOf_10 ?_
  refine G_icmp_ge (pc := 11) C 41 dX12_lengthOf_11 (by decide) (fun hc => ?_) (fun hc => ?_)
  · have hw := hw.1 hc
    refine G_iload_n (pc := 41) C 2 dX12_lengthOf_41 rfl rfl ?_
    exact G_iret (pc := 42) C rfl dX12_lengthOf_42 ⟨rfl, _, rfl, hw⟩
  · have hw := hw.2 hc
    refine G_iload_n (pc := 14) C 2 dX12_lengthOf_14 rfl rfl ?_
    refine G_iload_n (pc := 15) C 1 dX12_lengthOf_15 rfl rfl ?_
    refine G_iload_n (pc := 16) C 3 dX12_lengthOf_16 rfl rfl ?_
    refine G_ishr (pc := 17) C dX12_lengthOf_17 ?_
    refine G_iconst (pc := 18) C (v := 1) dX12_lengthOf_18 (by decide) ?_
    refine G_iand (pc := 19) C dX12_lengthOf_19 ?_
    refine G_iconst (pc := 20) C (v := 1) dX12_lengthOf_20 (by decide) ?_
    refine G_icmp_ne (pc := 21) C 32 dX12_lengthOf_21 (by decide) (fun hc => ?_) (fun hc => ?_)
    · have hw := hw.1 hc
      refine G_iconst (pc := 32) C (v := 0) dX12_lengthOf_32 (by decide) ?_
      exact G_sub [0, 1, 3] rfl (g_X12_lengthOf_33 C hK4 hw)
    · have hw := hw.2 hc
      refine G_aload_n (pc := 24) C 0 dX12_lengthOf_24 rfl rfl ?_
      refine G_iload_n (pc := 25) C 3 dX12_lengthOf_25 rfl rfl ?_
      obtain ⟨hk, hw⟩ := hw
      refine cl_RX12_43 (pc := 26) C (c_X12_stripesOf l z (v0) (v3) S _ hw) ⟨Nat.le_of_ble_eq_true rfl, Nat.le_of_ble_eq_true rfl⟩ hk dX12_lengthOf_26 (Nat.le_of_ble_eq_true rfl) (fun v S' hp => ?_)
      clear hw
      obtain ⟨hS, e4, rfl, hw⟩ := hp
      subst S'
      refine G_goto (pc := 29) C 33 dX12_lengthOf_29 (by decide) ?_
      exact G_sub [0, 1, 3] rfl (g_X12_lengthOf_33 C hK4 hw)
set_option maxHeartbeats 4000000 in
set_option maxRecDepth 100000 in
theorem g_X12_lengthOf_4 (C : Cx p s m args meth c z cX12_lengthOf 4 RX12 (some .int) "lengthOf")  {Q : Int32 → Prop} {v0 : Nat} {v1 : Int32} {v2 : Int32} {v3 : Int32} {S : Hp}   (hw : wp_X12_lengthOf_4  Q v0 v1 v2 v3 S) : Go p l e { frames := 2, cells := 0, slots := 0, locals := 42 } s m args below meth c z 4 (MQ below (Qx z (pI S Q)) args s 0 0 (own z)) (0) (0) 4 [(0, .ref (v0)), (1, .int (v1)), (2, .int (v2)), (3, .int (v3))] [] (S) :=
  Lp_go (G := fun y : Int32 × Int32 => Go p l e { frames := 2, cells := 0, slots := 0, locals := 42 } s m args below meth c z 4 (MQ below (Qx z (pI S Q)) args s 0 0 (own z)) (0) (0) 4 [(0, .ref (v0)), (1, .int (v1)), (2, .int (y.1)), (3, .int (y.2))] [] (S)) (fun K y hK hB => gb_X12_lengthOf_4 C  (fun w0 w1 h => hK (w0, w1) h) hB) hw
set_option maxHeartbeats 4000000 in
set_option maxRecDepth 100000 in
theorem c_X12_lengthOf (l : Launch) (z : Zt) (a0 : Nat) (x1 : Int32) (S : Hp) (Q : Int32 → Prop) (hw : wp_X12_lengthOf a0 x1 S Q) : Ct l z yX12_lengthOf cX12_lengthOf 4 (some .int) 2 42 0 0 [.ref (a0), .int (x1)] S (pI S Q) := by
  refine Ct_of (by decide) (Nat.le_of_ble_eq_true rfl) ?_
  intro p e s m args below meth c C
  have C : Cx p s m args meth c z cX12_lengthOf 4 RX12 (some .int) "lengthOf" := C
  refine G_sub (lv' := [(0, .ref (a0)), (1, .int (x1))]) [0, 1] rfl ?_
  refine G_iconst (pc := 0) C (v := 0) dX12_lengthOf_0 (by decide) ?_
  refine G_istore_n (pc := 1) C [(2, .int ((0 : Int32))), (0, .ref (a0)), (1, .int (x1))] dX12_lengthOf_1 rfl (by decide) rfl ?_
  refine G_iconst (pc := 2) C (v := 0) dX12_lengthOf_2 (by decide) ?_
  refine G_istore_n (pc := 3) C [(3, .int ((0 : Int32))), (2, .int ((0 : Int32))), (0, .ref (a0)), (1, .int (x1))] dX12_lengthOf_3 rfl (by decide) rfl ?_
  exact G_sub [2, 3, 1, 0] rfl (g_X12_lengthOf_4 C  hw)
/-! FirstPartsModel.isFit()Z -/
abbrev wp_X12_isFit_62 (K23 : Int32 → Int32 → Prop) (Q : Int32 → Prop) (v0 : Nat) (v2 : Int32) (s0 : Int32) (S : Hp) : Prop :=
  ∀ e5 : Int32, e5 = (v2 + 1) → K23 (s0) (e5)
abbrev wp_X12_isFit_61 (K23 : Int32 → Int32 → Prop) (Q : Int32 → Prop) (v0 : Nat) (v2 : Int32) (S : Hp) : Prop :=
  wp_X12_isFit_62 K23 Q (v0) (v2) ((0 : Int32)) (S)
abbrev wb_X12_isFit_23  (K23 : Int32 → Int32 → Prop) (Q : Int32 → Prop) (v0 : Nat) (v1 : Int32) (v2 : Int32) (S : Hp) : Prop :=
  kd S v0 = 13 ∧ ∃ b4, (gR S 193 v0 0) = some b4 ∧ kd S b4 = 20 ∧ vp_in (2 : Int32) (ln S b4) ∧ (((gI S 0 b4 ((2 : Int32)).toNatClampNeg) ≤ v2 → (v1 = 0 ∨ v1 = 1) ∧ Q v1) ∧ (¬ (gI S 0 b4 ((2 : Int32)).toNatClampNeg) ≤ v2 → ((v1 = 0 → wp_X12_isFit_61 K23 Q (v0) (v2) (S)) ∧ (¬ v1 = 0 → kd S v0 = 13 ∧ ∃ b8, (gR S 193 v0 0) = some b8 ∧ wp_X12_at (v2) S (fun e6 => kd S b8 = 20 ∧ vp_in (e6 + (1 : Int32)) (ln S b8) ∧ kd S v0 = 13 ∧ ∃ b9, (gR S 193 v0 0) = some b9 ∧ kd S b9 = 20 ∧ vp_in (0 : Int32) (ln S b9) ∧ (((gI S 0 b9 ((0 : Int32)).toNatClampNeg) < (gI S 0 b8 ((e6 + (1 : Int32))).toNatClampNeg) → wp_X12_isFit_61 K23 Q (v0) (v2) (S)) ∧ (¬ (gI S 0 b9 ((0 : Int32)).toNatClampNeg) < (gI S 0 b8 ((e6 + (1 : Int32))).toNatClampNeg) → wp_X12_isFit_62 K23 Q (v0) (v2) ((1 : Int32)) (S))))))))
abbrev wp_X12_isFit_23  (Q : Int32 → Prop) (v0 : Nat) (v1 : Int32) (v2 : Int32) (S : Hp) : Prop :=
  Lp (X := Int32 × Int32) (fun K y => wb_X12_isFit_23  (fun w0 w1 => K (w0, w1)) Q v0 y.1 y.2 S) (v1, v2)
abbrev wp_X12_isFit_20  (Q : Int32 → Prop) (v0 : Nat) (s0 : Int32) (S : Hp) : Prop :=
  wp_X12_isFit_23 Q (v0) (s0) ((0 : Int32)) (S)
abbrev wp_X12_isFit (a0 : Nat) (S : Hp) (Q : Int32 → Prop) : Prop :=
  kd S a0 = 13 ∧ wp_X12_lengthOf (a0) ((63 : Int32)) S (fun e1 => kd S a0 = 13 ∧ ∃ b3, (gR S 193 a0 0) = some b3 ∧ kd S b3 = 20 ∧ vp_in (1 : Int32) (ln S b3) ∧ (((gI S 0 b3 ((1 : Int32)).toNatClampNeg) < e1 → wp_X12_isFit_20 Q (a0) ((0 : Int32)) (S)) ∧ (¬ (gI S 0 b3 ((1 : Int32)).toNatClampNeg) < e1 → wp_X12_isFit_20 Q (a0) ((1 : Int32)) (S))))
set_option maxHeartbeats 4000000 in
set_option maxRecDepth 100000 in
theorem g_X12_isFit_62 (C : Cx p s m args meth c z cX12_isFit 3 RX12 (some .boolean) "isFit") {K23 : Int32 → Int32 → Prop} {Q : Int32 → Prop} {v0 : Nat} {v2 : Int32} {s0 : Int32} {S : Hp}  (hK23 : ∀ (w1 : Int32) (w2 : Int32), K23 w1 w2 → Go p l e { frames := 3, cells := 0, slots := 0, locals := 65 } s m args below meth c z 3 (MQ below (Qx z (pI S Q)) args s 0 0 (own z)) (0) (0) 23 [(0, .ref (v0)), (1, .int (w1)), (2, .int (w2))] [] (S)) (hw : wp_X12_isFit_62 K23 Q v0 v2 s0 S) : Go p l e { frames := 3, cells := 0, slots := 0, locals := 65 } s m args below meth c z 3 (MQ below (Qx z (pI S Q)) args s 0 0 (own z)) (0) (0) 62 [(0, .ref (v0)), (2, .int (v2))] [.int (s0)] (S) := by
  refine G_istore_n (pc := 62) C [(1, .int (s0)), (0, .ref (v0)), (2, .int (v2))] dX12_isFit_62 rfl (by decide) rfl ?_
  obtain ⟨e5, he5⟩ : ∃ y : Int32, y = (v2 + 1) := ⟨_, rfl⟩
  have hw := hw e5 he5
  refine G_iinc (pc := 63) C [(2, .int (e5)), (1, .int (s0)), (0, .ref (v0))] 2 (v := e5) dX12_isFit_63 rfl (by rw [he5]; rfl) (by decide) rfl ?_
  clear he5
  refine G_goto (pc := 66) C 23 dX12_isFit_66 (by decide) ?_
  exact G_sub [2, 1, 0] rfl (hK23 _ _ hw)
set_option maxHeartbeats 4000000 in
set_option maxRecDepth 100000 in
theorem g_X12_isFit_61 (C : Cx p s m args meth c z cX12_isFit 3 RX12 (some .boolean) "isFit") {K23 : Int32 → Int32 → Prop} {Q : Int32 → Prop} {v0 : Nat} {v2 : Int32} {S : Hp}  (hK23 : ∀ (w1 : Int32) (w2 : Int32), K23 w1 w2 → Go p l e { frames := 3, cells := 0, slots := 0, locals := 65 } s m args below meth c z 3 (MQ below (Qx z (pI S Q)) args s 0 0 (own z)) (0) (0) 23 [(0, .ref (v0)), (1, .int (w1)), (2, .int (w2))] [] (S)) (hw : wp_X12_isFit_61 K23 Q v0 v2 S) : Go p l e { frames := 3, cells := 0, slots := 0, locals := 65 } s m args below meth c z 3 (MQ below (Qx z (pI S Q)) args s 0 0 (own z)) (0) (0) 61 [(0, .ref (v0)), (2, .int (v2))] [] (S) := by
  refine G_iconst (pc := 61) C (v := 0) dX12_isFit_61 (by decide) ?_
  exact G_sub [0, 1] rfl (g_X12_isFit_62 C hK23 hw)
set_option maxHeartbeats 4000000 in
set_option maxRecDepth 100000 in
theorem gb_X12_isFit_23 (C : Cx p s m args meth c z cX12_isFit 3 RX12 (some .boolean) "isFit") {K23 : Int32 → Int32 → Prop} {Q : Int32 → Prop} {v0 : Nat} {v1 : Int32} {v2 : Int32} {S : Hp}  (hK23 : ∀ (w1 : Int32) (w2 : Int32), K23 w1 w2 → Go p l e { frames := 3, cells := 0, slots := 0, locals := 65 } s m args below meth c z 3 (MQ below (Qx z (pI S Q)) args s 0 0 (own z)) (0) (0) 23 [(0, .ref (v0)), (1, .int (w1)), (2, .int (w2))] [] (S)) (hw : wb_X12_isFit_23  K23 Q v0 v1 v2 S) : Go p l e { frames := 3, cells := 0, slots := 0, locals := 65 } s m args below meth c z 3 (MQ below (Qx z (pI S Q)) args s 0 0 (own z)) (0) (0) 23 [(0, .ref (v0)), (1, .int (v1)), (2, .int (v2))] [] (S) := by
  refine G_iload_n (pc := 23) C 2 dX12_isFit_23 rfl rfl ?_
  refine G_aload_n (pc := 24) C 0 dX12_isFit_24 rfl rfl ?_
  obtain ⟨hk, hw⟩ := hw
  refine gf_RX12_7 (pc := 25) C dX12_isFit_25 hk ?_
  refine G_iconst (pc := 28) C (v := 2) dX12_isFit_28 (by decide) ?_
  obtain ⟨b4, hq, hw⟩ := hw
  rw [hq]
  obtain ⟨hk, hi, hw⟩ := hw
  refine G_iald (pc := 29) C hk hi dX12_isFit_29 ?_
  refine G_icmp_ge (pc := 30) C 69 dX12_isFit_30 (by decide) (fun hc => ?_) (fun hc => ?_)
  · have hw := hw.1 hc
    refine G_iload_n (pc := 69) C 1 dX12_isFit_69 rfl rfl ?_
    obtain ⟨hb, hw⟩ := hw
    exact G_zret (pc := 70) C rfl hb dX12_isFit_70 ⟨rfl, _, rfl, hw⟩
  · have hw := hw.2 hc
    refine G_iload_n (pc := 33) C 1 dX12_isFit_33 rfl rfl ?_
    refine G_if_eq (pc := 34) C 61 dX12_isFit_34 (by decide) (fun hc => ?_) (fun hc => ?_)
    · have hw := hw.1 hc
      exact G_sub [0, 2] rfl (g_X12_isFit_61 C hK23 hw)
    · have hw := hw.2 hc
      refine G_aload_n (pc := 37) C 0 dX12_isFit_37 rfl rfl ?_
      obtain ⟨hk, hw⟩ := hw
      refine gf_RX12_7 (pc := 38) C dX12_isFit_38 hk ?_
      refine G_iload_n (pc := 41) C 2 dX12_isFit_41 rfl rfl ?_
      obtain ⟨b8, hq, hw⟩ := hw
      rw [hq]
      refine cl_RX12_35 (pc := 42) C (c_X12_at l z (v2) S _ hw) ⟨Nat.le_of_ble_eq_true rfl, Nat.le_of_ble_eq_true rfl⟩ dX12_isFit_42 (Nat.le_of_ble_eq_true rfl) (fun v S' hp => ?_)
      clear hw
      obtain ⟨hS, e6, rfl, hw⟩ := hp
      subst S'
      refine G_iconst (pc := 45) C (v := 1) dX12_isFit_45 (by decide) ?_
      refine G_iadd (pc := 46) C dX12_isFit_46 ?_
      obtain ⟨hk, hi, hw⟩ := hw
      refine G_iald (pc := 47) C hk hi dX12_isFit_47 ?_
      refine G_aload_n (pc := 48) C 0 dX12_isFit_48 rfl rfl ?_
      obtain ⟨hk, hw⟩ := hw
      refine gf_RX12_7 (pc := 49) C dX12_isFit_49 hk ?_
      refine G_iconst (pc := 52) C (v := 0) dX12_isFit_52 (by decide) ?_
      obtain ⟨b9, hq, hw⟩ := hw
      rw [hq]
      obtain ⟨hk, hi, hw⟩ := hw
      refine G_iald (pc := 53) C hk hi dX12_isFit_53 ?_
      refine G_icmp_gt (pc := 54) C 61 dX12_isFit_54 (by decide) (fun hc => ?_) (fun hc => ?_)
      · have hw := hw.1 hc
        exact G_sub [0, 2] rfl (g_X12_isFit_61 C hK23 hw)
      · have hw := hw.2 hc
        refine G_iconst (pc := 57) C (v := 1) dX12_isFit_57 (by decide) ?_
        refine G_goto (pc := 58) C 62 dX12_isFit_58 (by decide) ?_
        exact G_sub [0, 2] rfl (g_X12_isFit_62 C hK23 hw)
set_option maxHeartbeats 4000000 in
set_option maxRecDepth 100000 in
theorem g_X12_isFit_23 (C : Cx p s m args meth c z cX12_isFit 3 RX12 (some .boolean) "isFit")  {Q : Int32 → Prop} {v0 : Nat} {v1 : Int32} {v2 : Int32} {S : Hp}   (hw : wp_X12_isFit_23  Q v0 v1 v2 S) : Go p l e { frames := 3, cells := 0, slots := 0, locals := 65 } s m args below meth c z 3 (MQ below (Qx z (pI S Q)) args s 0 0 (own z)) (0) (0) 23 [(0, .ref (v0)), (1, .int (v1)), (2, .int (v2))] [] (S) :=
  Lp_go (G := fun y : Int32 × Int32 => Go p l e { frames := 3, cells := 0, slots := 0, locals := 65 } s m args below meth c z 3 (MQ below (Qx z (pI S Q)) args s 0 0 (own z)) (0) (0) 23 [(0, .ref (v0)), (1, .int (y.1)), (2, .int (y.2))] [] (S)) (fun K y hK hB => gb_X12_isFit_23 C  (fun w0 w1 h => hK (w0, w1) h) hB) hw
set_option maxHeartbeats 4000000 in
set_option maxRecDepth 100000 in
theorem g_X12_isFit_20 (C : Cx p s m args meth c z cX12_isFit 3 RX12 (some .boolean) "isFit")  {Q : Int32 → Prop} {v0 : Nat} {s0 : Int32} {S : Hp}   (hw : wp_X12_isFit_20  Q v0 s0 S) : Go p l e { frames := 3, cells := 0, slots := 0, locals := 65 } s m args below meth c z 3 (MQ below (Qx z (pI S Q)) args s 0 0 (own z)) (0) (0) 20 [(0, .ref (v0))] [.int (s0)] (S) := by
  refine G_istore_n (pc := 20) C [(1, .int (s0)), (0, .ref (v0))] dX12_isFit_20 rfl (by decide) rfl ?_
  refine G_iconst (pc := 21) C (v := 0) dX12_isFit_21 (by decide) ?_
  refine G_istore_n (pc := 22) C [(2, .int ((0 : Int32))), (1, .int (s0)), (0, .ref (v0))] dX12_isFit_22 rfl (by decide) rfl ?_
  exact G_sub [2, 1, 0] rfl (g_X12_isFit_23 C  hw)
set_option maxHeartbeats 4000000 in
set_option maxRecDepth 100000 in
theorem c_X12_isFit (l : Launch) (z : Zt) (a0 : Nat) (S : Hp) (Q : Int32 → Prop) (hw : wp_X12_isFit a0 S Q) : Ct l z yX12_isFit cX12_isFit 3 (some .boolean) 3 65 0 0 [.ref (a0)] S (pI S Q) := by
  refine Ct_of (by decide) (Nat.le_of_ble_eq_true rfl) ?_
  intro p e s m args below meth c C
  have C : Cx p s m args meth c z cX12_isFit 3 RX12 (some .boolean) "isFit" := C
  refine G_sub (lv' := [(0, .ref (a0))]) [0] rfl ?_
  refine G_aload_n (pc := 0) C 0 dX12_isFit_0 rfl rfl ?_
  refine G_bipush (pc := 1) C (v := 63) dX12_isFit_1 (by decide) ?_
  obtain ⟨hk, hw⟩ := hw
  refine cl_RX12_46 (pc := 3) C (c_X12_lengthOf l z (a0) ((63 : Int32)) S _ hw) ⟨Nat.le_of_ble_eq_true rfl, Nat.le_of_ble_eq_true rfl⟩ hk dX12_isFit_3 (Nat.le_of_ble_eq_true rfl) (fun v S' hp => ?_)
  clear hw
  obtain ⟨hS, e1, rfl, hw⟩ := hp
  subst S'
  refine G_aload_n (pc := 6) C 0 dX12_isFit_6 rfl rfl ?_
  obtain ⟨hk, hw⟩ := hw
  refine gf_RX12_7 (pc := 7) C dX12_isFit_7 hk ?_
  refine G_iconst (pc := 10) C (v := 1) dX12_isFit_10 (by decide) ?_
  obtain ⟨b3, hq, hw⟩ := hw
  rw [hq]
  obtain ⟨hk, hi, hw⟩ := hw
  refine G_iald (pc := 11) C hk hi dX12_isFit_11 ?_
  refine G_icmp_gt (pc := 12) C 19 dX12_isFit_12 (by decide) (fun hc => ?_) (fun hc => ?_)
  · have hw := hw.1 hc
    refine G_iconst (pc := 19) C (v := 0) dX12_isFit_19 (by decide) ?_
    exact G_sub [0] rfl (g_X12_isFit_20 C  hw)
  · have hw := hw.2 hc
    refine G_iconst (pc := 15) C (v := 1) dX12_isFit_15 (by decide) ?_
    refine G_goto (pc := 16) C 20 dX12_isFit_16 (by decide) ?_
    exact G_sub [0] rfl (g_X12_isFit_20 C  hw)
/-! FirstPartsModel.write(I)I -/
abbrev wp_X12_write (a0 : Nat) (x1 : Int32) (S : Hp) (Q : Int32 → Hp → Prop) : Prop :=
  wp_X12_in ((x1).toInt64) ((0 : Int64)) ((255 : Int64)) S (fun e1 => ((e1 ≠ 0 → kd S a0 = 13 ∧ (((gI S 196 a0 0) ≠ (200 : Int32) → kd S a0 = 13 ∧ kd S a0 = 13 ∧ ∃ b3, (gR S 195 a0 0) = some b3 ∧ kd S b3 = 20 ∧ vp_in (gI S 196 a0 0) (ln S b3) ∧ ∀ S4 : Hp, S4 = sI S 0 b3 ((gI S 196 a0 0)).toNatClampNeg x1 → kd S4 a0 = 13 ∧ kd S4 a0 = 13 ∧ ∀ S5 : Hp, S5 = sI S4 196 a0 0 ((gI S4 196 a0 0) + (1 : Int32)) → kd S5 a0 = 13 ∧ Q (gI S5 196 a0 0) S5) ∧ ((gI S 196 a0 0) = (200 : Int32) → Q (-5 : Int32) S))) ∧ (e1 = 0 → Q (-3 : Int32) S)))
set_option maxHeartbeats 4000000 in
set_option maxRecDepth 100000 in
theorem c_X12_write (l : Launch) (z : Zt) (a0 : Nat) (x1 : Int32) (S : Hp) (Q : Int32 → Hp → Prop) (hw : wp_X12_write a0 x1 S Q) : Ct l z yX12_write cX12_write 2 (some .int) 1 25 0 0 [.ref (a0), .int (x1)] S (wI Q) := by
  refine Ct_of (by decide) (Nat.le_of_ble_eq_true rfl) ?_
  intro p e s m args below meth c C
  have C : Cx p s m args meth c z cX12_write 2 RX12 (some .int) "write" := C
  refine G_sub (lv' := [(0, .ref (a0)), (1, .int (x1))]) [0, 1] rfl ?_
  refine G_iload_n (pc := 0) C 1 dX12_write_0 rfl rfl ?_
  refine G_i2l (pc := 1) C dX12_write_1 ?_
  refine G_lconst (pc := 2) C (v := 0) dX12_write_2 (by decide) ?_
  refine G_ldc2 (pc := 3) C kl_RX12_49 dX12_write_3 ?_
  refine cl_RX12_31 (pc := 6) C (c_X12_in l z ((x1).toInt64) ((0 : Int64)) ((255 : Int64)) S _ hw) ⟨Nat.le_of_ble_eq_true rfl, Nat.le_of_ble_eq_true rfl⟩ dX12_write_6 (Nat.le_of_ble_eq_true rfl) (fun v S' hp => ?_)
  clear hw
  obtain ⟨hS, e1, rfl, hw⟩ := hp
  subst S'
  refine G_if_ne (pc := 9) C 15 dX12_write_9 (by decide) (fun hc => ?_) (fun hc => ?_)
  · have hw := hw.1 hc
    refine G_aload_n (pc := 15) C 0 dX12_write_15 rfl rfl ?_
    obtain ⟨hk, hw⟩ := hw
    refine gf_RX12_51 (pc := 16) C dX12_write_16 hk ?_
    refine G_sipush (pc := 19) C (v := 200) dX12_write_19 (by decide) ?_
    refine G_icmp_ne (pc := 22) C 28 dX12_write_22 (by decide) (fun hc => ?_) (fun hc => ?_)
    · have hw := hw.1 hc
      refine G_aload_n (pc := 28) C 0 dX12_write_28 rfl rfl ?_
      obtain ⟨hk, hw⟩ := hw
      refine gf_RX12_13 (pc := 29) C dX12_write_29 hk ?_
      refine G_aload_n (pc := 32) C 0 dX12_write_32 rfl rfl ?_
      obtain ⟨hk, hw⟩ := hw
      refine gf_RX12_51 (pc := 33) C dX12_write_33 hk ?_
      refine G_iload_n (pc := 36) C 1 dX12_write_36 rfl rfl ?_
      obtain ⟨b3, hq, hw⟩ := hw
      rw [hq]
      obtain ⟨hk, hi, hw⟩ := hw
      refine G_iast (pc := 37) C hk hi dX12_write_37 ?_
      obtain ⟨S4, hS4⟩ : ∃ y : Hp, y = sI S 0 b3 ((gI S 196 a0 0)).toNatClampNeg x1 := ⟨_, rfl⟩
      have hw := hw S4 hS4
      rw [← hS4]
      clear hS4
      refine G_aload_n (pc := 38) C 0 dX12_write_38 rfl rfl ?_
      refine G_dup (pc := 39) C dX12_write_39 rfl ?_
      obtain ⟨hk, hw⟩ := hw
      refine gf_RX12_51 (pc := 40) C dX12_write_40 hk ?_
      refine G_iconst (pc := 43) C (v := 1) dX12_write_43 (by decide) ?_
      refine G_iadd (pc := 44) C dX12_write_44 ?_
      obtain ⟨hk, hw⟩ := hw
      refine pf_RX12_51 (pc := 45) C dX12_write_45 hk ?_
      obtain ⟨S5, hS5⟩ : ∃ y : Hp, y = sI S4 196 a0 0 ((gI S4 196 a0 0) + (1 : Int32)) := ⟨_, rfl⟩
      have hw := hw S5 hS5
      rw [← hS5]
      clear hS5
      refine G_aload_n (pc := 48) C 0 dX12_write_48 rfl rfl ?_
      obtain ⟨hk, hw⟩ := hw
      refine gf_RX12_51 (pc := 49) C dX12_write_49 hk ?_
      exact G_iret (pc := 52) C rfl dX12_write_52 ⟨_, rfl, hw⟩
    · have hw := hw.2 hc
      refine G_bipush (pc := 25) C (v := -5) dX12_write_25 (by decide) ?_
      exact G_iret (pc := 27) C rfl dX12_write_27 ⟨_, rfl, hw⟩
  · have hw := hw.2 hc
    refine G_bipush (pc := 12) C (v := -3) dX12_write_12 (by decide) ?_
    exact G_iret (pc := 14) C rfl dX12_write_14 ⟨_, rfl, hw⟩
/-! FirstPartsModel.erase()I -/
abbrev wp_X12_erase (a0 : Nat) (S : Hp) (Q : Int32 → Hp → Prop) : Prop :=
  kd S a0 = 13 ∧ ∀ e1 : Int32, e1 = (gI S 196 a0 0) → kd S a0 = 13 ∧ ∀ S2 : Hp, S2 = sI S 196 a0 0 (0 : Int32) → Q e1 S2
set_option maxHeartbeats 4000000 in
set_option maxRecDepth 100000 in
theorem c_X12_erase (l : Launch) (z : Zt) (a0 : Nat) (S : Hp) (Q : Int32 → Hp → Prop) (hw : wp_X12_erase a0 S Q) : Ct l z yX12_erase cX12_erase 2 (some .int) 0 0 0 0 [.ref (a0)] S (wI Q) := by
  refine Ct_of (by decide) (Nat.le_of_ble_eq_true rfl) ?_
  intro p e s m args below meth c C
  have C : Cx p s m args meth c z cX12_erase 2 RX12 (some .int) "erase" := C
  refine G_sub (lv' := [(0, .ref (a0))]) [0] rfl ?_
  refine G_aload_n (pc := 0) C 0 dX12_erase_0 rfl rfl ?_
  obtain ⟨hk, hw⟩ := hw
  refine gf_RX12_51 (pc := 1) C dX12_erase_1 hk ?_
  refine G_topi (fun e1 he1 => ?_)
  have hw := hw e1 he1
  clear he1
  refine G_istore_n (pc := 4) C [(1, .int (e1)), (0, .ref (a0))] dX12_erase_4 rfl (by decide) rfl ?_
  refine G_aload_n (pc := 5) C 1 dX12_erase_5 rfl rfl ?_
  refine G_iconst (pc := 6) C (v := 0) dX12_erase_6 (by decide) ?_
  obtain ⟨hk, hw⟩ := hw
  refine pf_RX12_51 (pc := 7) C dX12_erase_7 hk ?_
  obtain ⟨S2, hS2⟩ : ∃ y : Hp, y = sI S 196 a0 0 (0 : Int32) := ⟨_, rfl⟩
  have hw := hw S2 hS2
  rw [← hS2]
  clear hS2
  refine G_iload_n (pc := 10) C 0 dX12_erase_10 rfl rfl ?_
  exact G_iret (pc := 11) C rfl dX12_erase_11 ⟨_, rfl, hw⟩
/-! FirstPartsModel.isSmall(I)Z -/
abbrev wp_X12_isSmall (x0 : Int32) (S : Hp) (Q : Int32 → Prop) : Prop :=
  wp_X12_in ((x0).toInt64) ((97 : Int64)) ((122 : Int64)) S (fun e1 => (e1 = 0 ∨ e1 = 1) ∧ Q e1)
set_option maxHeartbeats 4000000 in
set_option maxRecDepth 100000 in
theorem c_X12_isSmall (l : Launch) (z : Zt) (x0 : Int32) (S : Hp) (Q : Int32 → Prop) (hw : wp_X12_isSmall x0 S Q) : Ct l z yX12_isSmall cX12_isSmall 1 (some .boolean) 1 25 0 0 [.int (x0)] S (pI S Q) := by
  refine Ct_of (by decide) (Nat.le_of_ble_eq_true rfl) ?_
  intro p e s m args below meth c C
  have C : Cx p s m args meth c z cX12_isSmall 1 RX12 (some .boolean) "isSmall" := C
  refine G_sub (lv' := [(0, .int (x0))]) [0] rfl ?_
  refine G_iload_n (pc := 0) C 0 dX12_isSmall_0 rfl rfl ?_
  refine G_i2l (pc := 1) C dX12_isSmall_1 ?_
  refine G_ldc2 (pc := 2) C kl_RX12_55 dX12_isSmall_2 ?_
  refine G_ldc2 (pc := 5) C kl_RX12_57 dX12_isSmall_5 ?_
  refine cl_RX12_31 (pc := 8) C (c_X12_in l z ((x0).toInt64) ((97 : Int64)) ((122 : Int64)) S _ hw) ⟨Nat.le_of_ble_eq_true rfl, Nat.le_of_ble_eq_true rfl⟩ dX12_isSmall_8 (Nat.le_of_ble_eq_true rfl) (fun v S' hp => ?_)
  clear hw
  obtain ⟨hS, e1, rfl, hw⟩ := hp
  subst S'
  obtain ⟨hb, hw⟩ := hw
  exact G_zret (pc := 11) C rfl hb dX12_isSmall_11 ⟨rfl, _, rfl, hw⟩
/-! FirstPartsModel.isDigit(I)Z -/
abbrev wp_X12_isDigit (x0 : Int32) (S : Hp) (Q : Int32 → Prop) : Prop :=
  wp_X12_in ((x0).toInt64) ((48 : Int64)) ((57 : Int64)) S (fun e1 => (e1 = 0 ∨ e1 = 1) ∧ Q e1)
set_option maxHeartbeats 4000000 in
set_option maxRecDepth 100000 in
theorem c_X12_isDigit (l : Launch) (z : Zt) (x0 : Int32) (S : Hp) (Q : Int32 → Prop) (hw : wp_X12_isDigit x0 S Q) : Ct l z yX12_isDigit cX12_isDigit 1 (some .boolean) 1 25 0 0 [.int (x0)] S (pI S Q) := by
  refine Ct_of (by decide) (Nat.le_of_ble_eq_true rfl) ?_
  intro p e s m args below meth c C
  have C : Cx p s m args meth c z cX12_isDigit 1 RX12 (some .boolean) "isDigit" := C
  refine G_sub (lv' := [(0, .int (x0))]) [0] rfl ?_
  refine G_iload_n (pc := 0) C 0 dX12_isDigit_0 rfl rfl ?_
  refine G_i2l (pc := 1) C dX12_isDigit_1 ?_
  refine G_ldc2 (pc := 2) C kl_RX12_59 dX12_isDigit_2 ?_
  refine G_ldc2 (pc := 5) C kl_RX12_61 dX12_isDigit_5 ?_
  refine cl_RX12_31 (pc := 8) C (c_X12_in l z ((x0).toInt64) ((48 : Int64)) ((57 : Int64)) S _ hw) ⟨Nat.le_of_ble_eq_true rfl, Nat.le_of_ble_eq_true rfl⟩ dX12_isDigit_8 (Nat.le_of_ble_eq_true rfl) (fun v S' hp => ?_)
  clear hw
  obtain ⟨hS, e1, rfl, hw⟩ := hp
  subst S'
  obtain ⟨hb, hw⟩ := hw
  exact G_zret (pc := 11) C rfl hb dX12_isDigit_11 ⟨rfl, _, rfl, hw⟩
/-! FirstPartsModel.next()V -/
abbrev wp_X12_next_200  (Q : Hp → Prop)  (S : Hp) : Prop :=
  Q S
abbrev wp_X12_next_187 (K138 : Hp → Prop) (Q : Hp → Prop) (v0 : Nat) (v1 : Int32) (v2 : Int32) (S : Hp) : Prop :=
  kd S v0 = 13 ∧ kd S v0 = 13 ∧ ∀ S6 : Hp, S6 = sI S 198 v0 0 ((gI S 198 v0 0) + (1 : Int32)) → K138 (S6)
abbrev wp_X12_next_168 (K138 : Hp → Prop) (Q : Hp → Prop) (v0 : Nat) (v1 : Int32) (v2 : Int32) (S : Hp) : Prop :=
  ((v2 = 0 → wp_X12_next_200 Q (S)) ∧ (¬ v2 = 0 → kd S v0 = 13 ∧ kd S v0 = 13 ∧ ∃ b3, (gR S 195 v0 0) = some b3 ∧ kd S b3 = 20 ∧ vp_in (gI S 198 v0 0) (ln S b3) ∧ wp_X12_isDigit ((gI S 0 b3 ((gI S 198 v0 0)).toNatClampNeg)) S (fun e4 => ((e4 = 0 → wp_X12_next_200 Q (S)) ∧ (¬ e4 = 0 → wp_X12_next_187 K138 Q (v0) (v1) (v2) (S))))))
abbrev wb_X12_next_138  (K138 : Hp → Prop) (Q : Hp → Prop) (v0 : Nat) (v1 : Int32) (v2 : Int32) (S : Hp) : Prop :=
  kd S v0 = 13 ∧ kd S v0 = 13 ∧ (((gI S 196 v0 0) ≤ (gI S 198 v0 0) → wp_X12_next_200 Q (S)) ∧ (¬ (gI S 196 v0 0) ≤ (gI S 198 v0 0) → ((v1 = 0 → wp_X12_next_168 K138 Q (v0) (v1) (v2) (S)) ∧ (¬ v1 = 0 → kd S v0 = 13 ∧ kd S v0 = 13 ∧ ∃ b7, (gR S 195 v0 0) = some b7 ∧ kd S b7 = 20 ∧ vp_in (gI S 198 v0 0) (ln S b7) ∧ wp_X12_isSmall ((gI S 0 b7 ((gI S 198 v0 0)).toNatClampNeg)) S (fun e8 => ((e8 ≠ 0 → wp_X12_next_187 K138 Q (v0) (v1) (v2) (S)) ∧ (e8 = 0 → wp_X12_next_168 K138 Q (v0) (v1) (v2) (S))))))))
abbrev wp_X12_next_138  (Q : Hp → Prop) (v0 : Nat) (v1 : Int32) (v2 : Int32) (S : Hp) : Prop :=
  Lp (X := Hp) (fun K y => wb_X12_next_138  (fun w0 => K (w0)) Q v0 v1 v2 y) (S)
abbrev wp_X12_next_137  (Q : Hp → Prop) (v0 : Nat) (v1 : Int32) (s0 : Int32) (S : Hp) : Prop :=
  wp_X12_next_138 Q (v0) (v1) (s0) (S)
abbrev wp_X12_next_136  (Q : Hp → Prop) (v0 : Nat) (v1 : Int32) (S : Hp) : Prop :=
  wp_X12_next_137 Q (v0) (v1) ((0 : Int32)) (S)
abbrev wp_X12_next_105  (Q : Hp → Prop) (v0 : Nat) (s0 : Int32) (S : Hp) : Prop :=
  kd S v0 = 13 ∧ kd S v0 = 13 ∧ (((gI S 196 v0 0) ≤ (gI S 197 v0 0) → wp_X12_next_136 Q (v0) (s0) (S)) ∧ (¬ (gI S 196 v0 0) ≤ (gI S 197 v0 0) → kd S v0 = 13 ∧ kd S v0 = 13 ∧ ∃ b10, (gR S 195 v0 0) = some b10 ∧ kd S b10 = 20 ∧ vp_in (gI S 197 v0 0) (ln S b10) ∧ wp_X12_isDigit ((gI S 0 b10 ((gI S 197 v0 0)).toNatClampNeg)) S (fun e11 => ((e11 = 0 → wp_X12_next_136 Q (v0) (s0) (S)) ∧ (¬ e11 = 0 → wp_X12_next_137 Q (v0) (s0) ((1 : Int32)) (S))))))
abbrev wp_X12_next_104  (Q : Hp → Prop) (v0 : Nat) (S : Hp) : Prop :=
  wp_X12_next_105 Q (v0) ((0 : Int32)) (S)
abbrev wp_X12_next_71  (Q : Hp → Prop) (v0 : Nat) (s0 : Int32) (s1 : Nat) (S : Hp) : Prop :=
  kd S s1 = 13 ∧ ∀ S2 : Hp, S2 = sI S 198 s1 0 s0 → kd S2 v0 = 13 ∧ kd S2 v0 = 13 ∧ (((gI S2 196 v0 0) ≤ (gI S2 197 v0 0) → wp_X12_next_104 Q (v0) (S2)) ∧ (¬ (gI S2 196 v0 0) ≤ (gI S2 197 v0 0) → kd S2 v0 = 13 ∧ kd S2 v0 = 13 ∧ ∃ b13, (gR S2 195 v0 0) = some b13 ∧ kd S2 b13 = 20 ∧ vp_in (gI S2 197 v0 0) (ln S2 b13) ∧ wp_X12_isSmall ((gI S2 0 b13 ((gI S2 197 v0 0)).toNatClampNeg)) S2 (fun e14 => ((e14 = 0 → wp_X12_next_104 Q (v0) (S2)) ∧ (¬ e14 = 0 → wp_X12_next_105 Q (v0) ((1 : Int32)) (S2))))))
abbrev wp_X12_next_46  (Q : Hp → Prop) (v0 : Nat) (S : Hp) : Prop :=
  kd S v0 = 13 ∧ kd S v0 = 13 ∧ (((gI S 196 v0 0) ≤ (gI S 197 v0 0) → kd S v0 = 13 ∧ wp_X12_next_71 Q (v0) ((gI S 197 v0 0)) (v0) (S)) ∧ (¬ (gI S 196 v0 0) ≤ (gI S 197 v0 0) → kd S v0 = 13 ∧ wp_X12_next_71 Q (v0) (((gI S 197 v0 0) + (1 : Int32))) (v0) (S)))
abbrev wb_X12_next_8  (K8 : Hp → Prop) (Q : Hp → Prop) (v0 : Nat) (S : Hp) : Prop :=
  kd S v0 = 13 ∧ kd S v0 = 13 ∧ (((gI S 196 v0 0) ≤ (gI S 197 v0 0) → wp_X12_next_46 Q (v0) (S)) ∧ (¬ (gI S 196 v0 0) ≤ (gI S 197 v0 0) → kd S v0 = 13 ∧ kd S v0 = 13 ∧ ∃ b16, (gR S 195 v0 0) = some b16 ∧ kd S b16 = 20 ∧ vp_in (gI S 197 v0 0) (ln S b16) ∧ (((gI S 0 b16 ((gI S 197 v0 0)).toNatClampNeg) ≠ (32 : Int32) → wp_X12_next_46 Q (v0) (S)) ∧ ((gI S 0 b16 ((gI S 197 v0 0)).toNatClampNeg) = (32 : Int32) → kd S v0 = 13 ∧ kd S v0 = 13 ∧ ∀ S17 : Hp, S17 = sI S 197 v0 0 ((gI S 197 v0 0) + (1 : Int32)) → K8 (S17)))))
abbrev wp_X12_next_8  (Q : Hp → Prop) (v0 : Nat) (S : Hp) : Prop :=
  Lp (X := Hp) (fun K y => wb_X12_next_8  (fun w0 => K (w0)) Q v0 y) (S)
abbrev wp_X12_next (a0 : Nat) (S : Hp) (Q : Hp → Prop) : Prop :=
  kd S a0 = 13 ∧ kd S a0 = 13 ∧ ∀ S1 : Hp, S1 = sI S 197 a0 0 (gI S 198 a0 0) → wp_X12_next_8 Q (a0) (S1)
set_option maxHeartbeats 4000000 in
set_option maxRecDepth 100000 in
theorem g_X12_next_200 (C : Cx p s m args meth c z cX12_next 3 RX12 none "next")  {Q : Hp → Prop}  {S : Hp}   (hw : wp_X12_next_200  Q  S) : Go p l e { frames := 2, cells := 0, slots := 0, locals := 45 } s m args below meth c z 3 (MQ below (Qx z (wV Q)) args s 0 0 (own z)) (0) (0) 200 [] [] (S) := by
  exact G_vret (pc := 200) C rfl dX12_next_200 ⟨rfl, hw⟩
set_option maxHeartbeats 4000000 in
set_option maxRecDepth 100000 in
theorem g_X12_next_187 (C : Cx p s m args meth c z cX12_next 3 RX12 none "next") {K138 : Hp → Prop} {Q : Hp → Prop} {v0 : Nat} {v1 : Int32} {v2 : Int32} {S : Hp}  (hK138 : ∀  (S2 : Hp), K138  S2 → Go p l e { frames := 2, cells := 0, slots := 0, locals := 45 } s m args below meth c z 3 (MQ below (Qx z (wV Q)) args s 0 0 (own z)) (0) (0) 138 [(0, .ref (v0)), (1, .int (v1)), (2, .int (v2))] [] (S2)) (hw : wp_X12_next_187 K138 Q v0 v1 v2 S) : Go p l e { frames := 2, cells := 0, slots := 0, locals := 45 } s m args below meth c z 3 (MQ below (Qx z (wV Q)) args s 0 0 (own z)) (0) (0) 187 [(0, .ref (v0)), (1, .int (v1)), (2, .int (v2))] [] (S) := by
  refine G_aload_n (pc := 187) C 0 dX12_next_187 rfl rfl ?_
  refine G_dup (pc := 188) C dX12_next_188 rfl ?_
  obtain ⟨hk, hw⟩ := hw
  refine gf_RX12_63 (pc := 189) C dX12_next_189 hk ?_
  refine G_iconst (pc := 192) C (v := 1) dX12_next_192 (by decide) ?_
  refine G_iadd (pc := 193) C dX12_next_193 ?_
  obtain ⟨hk, hw⟩ := hw
  refine pf_RX12_63 (pc := 194) C dX12_next_194 hk ?_
  obtain ⟨S6, hS6⟩ : ∃ y : Hp, y = sI S 198 v0 0 ((gI S 198 v0 0) + (1 : Int32)) := ⟨_, rfl⟩
  have hw := hw S6 hS6
  rw [← hS6]
  clear hS6
  refine G_goto (pc := 197) C 138 dX12_next_197 (by decide) ?_
  exact G_sub [0, 1, 2] rfl (hK138 _ hw)
set_option maxHeartbeats 4000000 in
set_option maxRecDepth 100000 in
theorem g_X12_next_168 (C : Cx p s m args meth c z cX12_next 3 RX12 none "next") {K138 : Hp → Prop} {Q : Hp → Prop} {v0 : Nat} {v1 : Int32} {v2 : Int32} {S : Hp}  (hK138 : ∀  (S2 : Hp), K138  S2 → Go p l e { frames := 2, cells := 0, slots := 0, locals := 45 } s m args below meth c z 3 (MQ below (Qx z (wV Q)) args s 0 0 (own z)) (0) (0) 138 [(0, .ref (v0)), (1, .int (v1)), (2, .int (v2))] [] (S2)) (hw : wp_X12_next_168 K138 Q v0 v1 v2 S) : Go p l e { frames := 2, cells := 0, slots := 0, locals := 45 } s m args below meth c z 3 (MQ below (Qx z (wV Q)) args s 0 0 (own z)) (0) (0) 168 [(0, .ref (v0)), (1, .int (v1)), (2, .int (v2))] [] (S) := by
  refine G_iload_n (pc := 168) C 2 dX12_next_168 rfl rfl ?_
  refine G_if_eq (pc := 169) C 200 dX12_next_169 (by decide) (fun hc => ?_) (fun hc => ?_)
  · have hw := hw.1 hc
    exact G_sub [] rfl (g_X12_next_200 C  hw)
  · have hw := hw.2 hc
    refine G_aload_n (pc := 172) C 0 dX12_next_172 rfl rfl ?_
    obtain ⟨hk, hw⟩ := hw
    refine gf_RX12_13 (pc := 173) C dX12_next_173 hk ?_
    refine G_aload_n (pc := 176) C 0 dX12_next_176 rfl rfl ?_
    obtain ⟨hk, hw⟩ := hw
    refine gf_RX12_63 (pc := 177) C dX12_next_177 hk ?_
    obtain ⟨b3, hq, hw⟩ := hw
    rw [hq]
    obtain ⟨hk, hi, hw⟩ := hw
    refine G_iald (pc := 180) C hk hi dX12_next_180 ?_
    refine cl_RX12_73 (pc := 181) C (c_X12_isDigit l z ((gI S 0 b3 ((gI S 198 v0 0)).toNatClampNeg)) S _ hw) ⟨Nat.le_of_ble_eq_true rfl, Nat.le_of_ble_eq_true rfl⟩ dX12_next_181 (Nat.le_of_ble_eq_true rfl) (fun v S' hp => ?_)
    clear hw
    obtain ⟨hS, e4, rfl, hw⟩ := hp
    subst S'
    refine G_if_eq (pc := 184) C 200 dX12_next_184 (by decide) (fun hc => ?_) (fun hc => ?_)
    · have hw := hw.1 hc
      exact G_sub [] rfl (g_X12_next_200 C  hw)
    · have hw := hw.2 hc
      exact G_sub [0, 1, 2] rfl (g_X12_next_187 C hK138 hw)
set_option maxHeartbeats 4000000 in
set_option maxRecDepth 100000 in
theorem gb_X12_next_138 (C : Cx p s m args meth c z cX12_next 3 RX12 none "next") {K138 : Hp → Prop} {Q : Hp → Prop} {v0 : Nat} {v1 : Int32} {v2 : Int32} {S : Hp}  (hK138 : ∀  (S2 : Hp), K138  S2 → Go p l e { frames := 2, cells := 0, slots := 0, locals := 45 } s m args below meth c z 3 (MQ below (Qx z (wV Q)) args s 0 0 (own z)) (0) (0) 138 [(0, .ref (v0)), (1, .int (v1)), (2, .int (v2))] [] (S2)) (hw : wb_X12_next_138  K138 Q v0 v1 v2 S) : Go p l e { frames := 2, cells := 0, slots := 0, locals := 45 } s m args below meth c z 3 (MQ below (Qx z (wV Q)) args s 0 0 (own z)) (0) (0) 138 [(0, .ref (v0)), (1, .int (v1)), (2, .int (v2))] [] (S) := by
  refine G_aload_n (pc := 138) C 0 dX12_next_138 rfl rfl ?_
  obtain ⟨hk, hw⟩ := hw
  refine gf_RX12_63 (pc := 139) C dX12_next_139 hk ?_
  refine G_aload_n (pc := 142) C 0 dX12_next_142 rfl rfl ?_
  obtain ⟨hk, hw⟩ := hw
  refine gf_RX12_51 (pc := 143) C dX12_next_143 hk ?_
  refine G_icmp_ge (pc := 146) C 200 dX12_next_146 (by decide) (fun hc => ?_) (fun hc => ?_)
  · have hw := hw.1 hc
    exact G_sub [] rfl (g_X12_next_200 C  hw)
  · have hw := hw.2 hc
    refine G_iload_n (pc := 149) C 1 dX12_next_149 rfl rfl ?_
    refine G_if_eq (pc := 150) C 168 dX12_next_150 (by decide) (fun hc => ?_) (fun hc => ?_)
    · have hw := hw.1 hc
      exact G_sub [0, 1, 2] rfl (g_X12_next_168 C hK138 hw)
    · have hw := hw.2 hc
      refine G_aload_n (pc := 153) C 0 dX12_next_153 rfl rfl ?_
      obtain ⟨hk, hw⟩ := hw
      refine gf_RX12_13 (pc := 154) C dX12_next_154 hk ?_
      refine G_aload_n (pc := 157) C 0 dX12_next_157 rfl rfl ?_
      obtain ⟨hk, hw⟩ := hw
      refine gf_RX12_63 (pc := 158) C dX12_next_158 hk ?_
      obtain ⟨b7, hq, hw⟩ := hw
      rw [hq]
      obtain ⟨hk, hi, hw⟩ := hw
      refine G_iald (pc := 161) C hk hi dX12_next_161 ?_
      refine cl_RX12_69 (pc := 162) C (c_X12_isSmall l z ((gI S 0 b7 ((gI S 198 v0 0)).toNatClampNeg)) S _ hw) ⟨Nat.le_of_ble_eq_true rfl, Nat.le_of_ble_eq_true rfl⟩ dX12_next_162 (Nat.le_of_ble_eq_true rfl) (fun v S' hp => ?_)
      clear hw
      obtain ⟨hS, e8, rfl, hw⟩ := hp
      subst S'
      refine G_if_ne (pc := 165) C 187 dX12_next_165 (by decide) (fun hc => ?_) (fun hc => ?_)
      · have hw := hw.1 hc
        exact G_sub [0, 1, 2] rfl (g_X12_next_187 C hK138 hw)
      · have hw := hw.2 hc
        exact G_sub [0, 1, 2] rfl (g_X12_next_168 C hK138 hw)
set_option maxHeartbeats 4000000 in
set_option maxRecDepth 100000 in
theorem g_X12_next_138 (C : Cx p s m args meth c z cX12_next 3 RX12 none "next")  {Q : Hp → Prop} {v0 : Nat} {v1 : Int32} {v2 : Int32} {S : Hp}   (hw : wp_X12_next_138  Q v0 v1 v2 S) : Go p l e { frames := 2, cells := 0, slots := 0, locals := 45 } s m args below meth c z 3 (MQ below (Qx z (wV Q)) args s 0 0 (own z)) (0) (0) 138 [(0, .ref (v0)), (1, .int (v1)), (2, .int (v2))] [] (S) :=
  Lp_go (G := fun y : Hp => Go p l e { frames := 2, cells := 0, slots := 0, locals := 45 } s m args below meth c z 3 (MQ below (Qx z (wV Q)) args s 0 0 (own z)) (0) (0) 138 [(0, .ref (v0)), (1, .int (v1)), (2, .int (v2))] [] (y)) (fun K y hK hB => gb_X12_next_138 C  (fun w0 h => hK (w0) h) hB) hw
set_option maxHeartbeats 4000000 in
set_option maxRecDepth 100000 in
theorem g_X12_next_137 (C : Cx p s m args meth c z cX12_next 3 RX12 none "next")  {Q : Hp → Prop} {v0 : Nat} {v1 : Int32} {s0 : Int32} {S : Hp}   (hw : wp_X12_next_137  Q v0 v1 s0 S) : Go p l e { frames := 2, cells := 0, slots := 0, locals := 45 } s m args below meth c z 3 (MQ below (Qx z (wV Q)) args s 0 0 (own z)) (0) (0) 137 [(0, .ref (v0)), (1, .int (v1))] [.int (s0)] (S) := by
  refine G_istore_n (pc := 137) C [(2, .int (s0)), (0, .ref (v0)), (1, .int (v1))] dX12_next_137 rfl (by decide) rfl ?_
  exact G_sub [1, 2, 0] rfl (g_X12_next_138 C  hw)
set_option maxHeartbeats 4000000 in
set_option maxRecDepth 100000 in
theorem g_X12_next_136 (C : Cx p s m args meth c z cX12_next 3 RX12 none "next")  {Q : Hp → Prop} {v0 : Nat} {v1 : Int32} {S : Hp}   (hw : wp_X12_next_136  Q v0 v1 S) : Go p l e { frames := 2, cells := 0, slots := 0, locals := 45 } s m args below meth c z 3 (MQ below (Qx z (wV Q)) args s 0 0 (own z)) (0) (0) 136 [(0, .ref (v0)), (1, .int (v1))] [] (S) := by
  refine G_iconst (pc := 136) C (v := 0) dX12_next_136 (by decide) ?_
  exact G_sub [0, 1] rfl (g_X12_next_137 C  hw)
set_option maxHeartbeats 4000000 in
set_option maxRecDepth 100000 in
theorem g_X12_next_105 (C : Cx p s m args meth c z cX12_next 3 RX12 none "next")  {Q : Hp → Prop} {v0 : Nat} {s0 : Int32} {S : Hp}   (hw : wp_X12_next_105  Q v0 s0 S) : Go p l e { frames := 2, cells := 0, slots := 0, locals := 45 } s m args below meth c z 3 (MQ below (Qx z (wV Q)) args s 0 0 (own z)) (0) (0) 105 [(0, .ref (v0))] [.int (s0)] (S) := by
  refine G_istore_n (pc := 105) C [(1, .int (s0)), (0, .ref (v0))] dX12_next_105 rfl (by decide) rfl ?_
  refine G_aload_n (pc := 106) C 1 dX12_next_106 rfl rfl ?_
  obtain ⟨hk, hw⟩ := hw
  refine gf_RX12_66 (pc := 107) C dX12_next_107 hk ?_
  refine G_aload_n (pc := 110) C 1 dX12_next_110 rfl rfl ?_
  obtain ⟨hk, hw⟩ := hw
  refine gf_RX12_51 (pc := 111) C dX12_next_111 hk ?_
  refine G_icmp_ge (pc := 114) C 136 dX12_next_114 (by decide) (fun hc => ?_) (fun hc => ?_)
  · have hw := hw.1 hc
    exact G_sub [1, 0] rfl (g_X12_next_136 C  hw)
  · have hw := hw.2 hc
    refine G_aload_n (pc := 117) C 1 dX12_next_117 rfl rfl ?_
    obtain ⟨hk, hw⟩ := hw
    refine gf_RX12_13 (pc := 118) C dX12_next_118 hk ?_
    refine G_aload_n (pc := 121) C 1 dX12_next_121 rfl rfl ?_
    obtain ⟨hk, hw⟩ := hw
    refine gf_RX12_66 (pc := 122) C dX12_next_122 hk ?_
    obtain ⟨b10, hq, hw⟩ := hw
    rw [hq]
    obtain ⟨hk, hi, hw⟩ := hw
    refine G_iald (pc := 125) C hk hi dX12_next_125 ?_
    refine cl_RX12_73 (pc := 126) C (c_X12_isDigit l z ((gI S 0 b10 ((gI S 197 v0 0)).toNatClampNeg)) S _ hw) ⟨Nat.le_of_ble_eq_true rfl, Nat.le_of_ble_eq_true rfl⟩ dX12_next_126 (Nat.le_of_ble_eq_true rfl) (fun v S' hp => ?_)
    clear hw
    obtain ⟨hS, e11, rfl, hw⟩ := hp
    subst S'
    refine G_if_eq (pc := 129) C 136 dX12_next_129 (by decide) (fun hc => ?_) (fun hc => ?_)
    · have hw := hw.1 hc
      exact G_sub [1, 0] rfl (g_X12_next_136 C  hw)
    · have hw := hw.2 hc
      refine G_iconst (pc := 132) C (v := 1) dX12_next_132 (by decide) ?_
      refine G_goto (pc := 133) C 137 dX12_next_133 (by decide) ?_
      exact G_sub [1, 0] rfl (g_X12_next_137 C  hw)
set_option maxHeartbeats 4000000 in
set_option maxRecDepth 100000 in
theorem g_X12_next_104 (C : Cx p s m args meth c z cX12_next 3 RX12 none "next")  {Q : Hp → Prop} {v0 : Nat} {S : Hp}   (hw : wp_X12_next_104  Q v0 S) : Go p l e { frames := 2, cells := 0, slots := 0, locals := 45 } s m args below meth c z 3 (MQ below (Qx z (wV Q)) args s 0 0 (own z)) (0) (0) 104 [(0, .ref (v0))] [] (S) := by
  refine G_iconst (pc := 104) C (v := 0) dX12_next_104 (by decide) ?_
  exact G_sub [0] rfl (g_X12_next_105 C  hw)
set_option maxHeartbeats 4000000 in
set_option maxRecDepth 100000 in
theorem g_X12_next_71 (C : Cx p s m args meth c z cX12_next 3 RX12 none "next")  {Q : Hp → Prop} {v0 : Nat} {s0 : Int32} {s1 : Nat} {S : Hp}   (hw : wp_X12_next_71  Q v0 s0 s1 S) : Go p l e { frames := 2, cells := 0, slots := 0, locals := 45 } s m args below meth c z 3 (MQ below (Qx z (wV Q)) args s 0 0 (own z)) (0) (0) 71 [(0, .ref (v0))] [.int (s0), .ref (s1)] (S) := by
  obtain ⟨hk, hw⟩ := hw
  refine pf_RX12_63 (pc := 71) C dX12_next_71 hk ?_
  obtain ⟨S2, hS2⟩ : ∃ y : Hp, y = sI S 198 s1 0 s0 := ⟨_, rfl⟩
  have hw := hw S2 hS2
  rw [← hS2]
  clear hS2
  refine G_aload_n (pc := 74) C 0 dX12_next_74 rfl rfl ?_
  obtain ⟨hk, hw⟩ := hw
  refine gf_RX12_66 (pc := 75) C dX12_next_75 hk ?_
  refine G_aload_n (pc := 78) C 0 dX12_next_78 rfl rfl ?_
  obtain ⟨hk, hw⟩ := hw
  refine gf_RX12_51 (pc := 79) C dX12_next_79 hk ?_
  refine G_icmp_ge (pc := 82) C 104 dX12_next_82 (by decide) (fun hc => ?_) (fun hc => ?_)
  · have hw := hw.1 hc
    exact G_sub [0] rfl (g_X12_next_104 C  hw)
  · have hw := hw.2 hc
    refine G_aload_n (pc := 85) C 0 dX12_next_85 rfl rfl ?_
    obtain ⟨hk, hw⟩ := hw
    refine gf_RX12_13 (pc := 86) C dX12_next_86 hk ?_
    refine G_aload_n (pc := 89) C 0 dX12_next_89 rfl rfl ?_
    obtain ⟨hk, hw⟩ := hw
    refine gf_RX12_66 (pc := 90) C dX12_next_90 hk ?_
    obtain ⟨b13, hq, hw⟩ := hw
    rw [hq]
    obtain ⟨hk, hi, hw⟩ := hw
    refine G_iald (pc := 93) C hk hi dX12_next_93 ?_
    refine cl_RX12_69 (pc := 94) C (c_X12_isSmall l z ((gI S2 0 b13 ((gI S2 197 v0 0)).toNatClampNeg)) S2 _ hw) ⟨Nat.le_of_ble_eq_true rfl, Nat.le_of_ble_eq_true rfl⟩ dX12_next_94 (Nat.le_of_ble_eq_true rfl) (fun v S' hp => ?_)
    clear hw
    obtain ⟨hS, e14, rfl, hw⟩ := hp
    subst S'
    refine G_if_eq (pc := 97) C 104 dX12_next_97 (by decide) (fun hc => ?_) (fun hc => ?_)
    · have hw := hw.1 hc
      exact G_sub [0] rfl (g_X12_next_104 C  hw)
    · have hw := hw.2 hc
      refine G_iconst (pc := 100) C (v := 1) dX12_next_100 (by decide) ?_
      refine G_goto (pc := 101) C 105 dX12_next_101 (by decide) ?_
      exact G_sub [0] rfl (g_X12_next_105 C  hw)
set_option maxHeartbeats 4000000 in
set_option maxRecDepth 100000 in
theorem g_X12_next_46 (C : Cx p s m args meth c z cX12_next 3 RX12 none "next")  {Q : Hp → Prop} {v0 : Nat} {S : Hp}   (hw : wp_X12_next_46  Q v0 S) : Go p l e { frames := 2, cells := 0, slots := 0, locals := 45 } s m args below meth c z 3 (MQ below (Qx z (wV Q)) args s 0 0 (own z)) (0) (0) 46 [(0, .ref (v0))] [] (S) := by
  refine G_aload_n (pc := 46) C 0 dX12_next_46 rfl rfl ?_
  refine G_aload_n (pc := 47) C 0 dX12_next_47 rfl rfl ?_
  obtain ⟨hk, hw⟩ := hw
  refine gf_RX12_66 (pc := 48) C dX12_next_48 hk ?_
  refine G_aload_n (pc := 51) C 0 dX12_next_51 rfl rfl ?_
  obtain ⟨hk, hw⟩ := hw
  refine gf_RX12_51 (pc := 52) C dX12_next_52 hk ?_
  refine G_icmp_ge (pc := 55) C 67 dX12_next_55 (by decide) (fun hc => ?_) (fun hc => ?_)
  · have hw := hw.1 hc
    refine G_aload_n (pc := 67) C 0 dX12_next_67 rfl rfl ?_
    obtain ⟨hk, hw⟩ := hw
    refine gf_RX12_66 (pc := 68) C dX12_next_68 hk ?_
    exact G_sub [0] rfl (g_X12_next_71 C  hw)
  · have hw := hw.2 hc
    refine G_aload_n (pc := 58) C 0 dX12_next_58 rfl rfl ?_
    obtain ⟨hk, hw⟩ := hw
    refine gf_RX12_66 (pc := 59) C dX12_next_59 hk ?_
    refine G_iconst (pc := 62) C (v := 1) dX12_next_62 (by decide) ?_
    refine G_iadd (pc := 63) C dX12_next_63 ?_
    refine G_goto (pc := 64) C 71 dX12_next_64 (by decide) ?_
    exact G_sub [0] rfl (g_X12_next_71 C  hw)
set_option maxHeartbeats 4000000 in
set_option maxRecDepth 100000 in
theorem gb_X12_next_8 (C : Cx p s m args meth c z cX12_next 3 RX12 none "next") {K8 : Hp → Prop} {Q : Hp → Prop} {v0 : Nat} {S : Hp}  (hK8 : ∀  (S2 : Hp), K8  S2 → Go p l e { frames := 2, cells := 0, slots := 0, locals := 45 } s m args below meth c z 3 (MQ below (Qx z (wV Q)) args s 0 0 (own z)) (0) (0) 8 [(0, .ref (v0))] [] (S2)) (hw : wb_X12_next_8  K8 Q v0 S) : Go p l e { frames := 2, cells := 0, slots := 0, locals := 45 } s m args below meth c z 3 (MQ below (Qx z (wV Q)) args s 0 0 (own z)) (0) (0) 8 [(0, .ref (v0))] [] (S) := by
  refine G_aload_n (pc := 8) C 0 dX12_next_8 rfl rfl ?_
  obtain ⟨hk, hw⟩ := hw
  refine gf_RX12_66 (pc := 9) C dX12_next_9 hk ?_
  refine G_aload_n (pc := 12) C 0 dX12_next_12 rfl rfl ?_
  obtain ⟨hk, hw⟩ := hw
  refine gf_RX12_51 (pc := 13) C dX12_next_13 hk ?_
  refine G_icmp_ge (pc := 16) C 46 dX12_next_16 (by decide) (fun hc => ?_) (fun hc => ?_)
  · have hw := hw.1 hc
    exact G_sub [0] rfl (g_X12_next_46 C  hw)
  · have hw := hw.2 hc
    refine G_aload_n (pc := 19) C 0 dX12_next_19 rfl rfl ?_
    obtain ⟨hk, hw⟩ := hw
    refine gf_RX12_13 (pc := 20) C dX12_next_20 hk ?_
    refine G_aload_n (pc := 23) C 0 dX12_next_23 rfl rfl ?_
    obtain ⟨hk, hw⟩ := hw
    refine gf_RX12_66 (pc := 24) C dX12_next_24 hk ?_
    obtain ⟨b16, hq, hw⟩ := hw
    rw [hq]
    obtain ⟨hk, hi, hw⟩ := hw
    refine G_iald (pc := 27) C hk hi dX12_next_27 ?_
    refine G_bipush (pc := 28) C (v := 32) dX12_next_28 (by decide) ?_
    refine G_icmp_ne (pc := 30) C 46 dX12_next_30 (by decide) (fun hc => ?_) (fun hc => ?_)
    · have hw := hw.1 hc
      exact G_sub [0] rfl (g_X12_next_46 C  hw)
    · have hw := hw.2 hc
      refine G_aload_n (pc := 33) C 0 dX12_next_33 rfl rfl ?_
      refine G_dup (pc := 34) C dX12_next_34 rfl ?_
      obtain ⟨hk, hw⟩ := hw
      refine gf_RX12_66 (pc := 35) C dX12_next_35 hk ?_
      refine G_iconst (pc := 38) C (v := 1) dX12_next_38 (by decide) ?_
      refine G_iadd (pc := 39) C dX12_next_39 ?_
      obtain ⟨hk, hw⟩ := hw
      refine pf_RX12_66 (pc := 40) C dX12_next_40 hk ?_
      obtain ⟨S17, hS17⟩ : ∃ y : Hp, y = sI S 197 v0 0 ((gI S 197 v0 0) + (1 : Int32)) := ⟨_, rfl⟩
      have hw := hw S17 hS17
      rw [← hS17]
      clear hS17
      refine G_goto (pc := 43) C 8 dX12_next_43 (by decide) ?_
      exact G_sub [0] rfl (hK8 _ hw)
set_option maxHeartbeats 4000000 in
set_option maxRecDepth 100000 in
theorem g_X12_next_8 (C : Cx p s m args meth c z cX12_next 3 RX12 none "next")  {Q : Hp → Prop} {v0 : Nat} {S : Hp}   (hw : wp_X12_next_8  Q v0 S) : Go p l e { frames := 2, cells := 0, slots := 0, locals := 45 } s m args below meth c z 3 (MQ below (Qx z (wV Q)) args s 0 0 (own z)) (0) (0) 8 [(0, .ref (v0))] [] (S) :=
  Lp_go (G := fun y : Hp => Go p l e { frames := 2, cells := 0, slots := 0, locals := 45 } s m args below meth c z 3 (MQ below (Qx z (wV Q)) args s 0 0 (own z)) (0) (0) 8 [(0, .ref (v0))] [] (y)) (fun K y hK hB => gb_X12_next_8 C  (fun w0 h => hK (w0) h) hB) hw
set_option maxHeartbeats 4000000 in
set_option maxRecDepth 100000 in
theorem c_X12_next (l : Launch) (z : Zt) (a0 : Nat) (S : Hp) (Q : Hp → Prop) (hw : wp_X12_next a0 S Q) : Ct l z yX12_next cX12_next 3 none 2 45 0 0 [.ref (a0)] S (wV Q) := by
  refine Ct_of (by decide) (Nat.le_of_ble_eq_true rfl) ?_
  intro p e s m args below meth c C
  have C : Cx p s m args meth c z cX12_next 3 RX12 none "next" := C
  refine G_sub (lv' := [(0, .ref (a0))]) [0] rfl ?_
  refine G_aload_n (pc := 0) C 0 dX12_next_0 rfl rfl ?_
  refine G_aload_n (pc := 1) C 0 dX12_next_1 rfl rfl ?_
  obtain ⟨hk, hw⟩ := hw
  refine gf_RX12_63 (pc := 2) C dX12_next_2 hk ?_
  obtain ⟨hk, hw⟩ := hw
  refine pf_RX12_66 (pc := 5) C dX12_next_5 hk ?_
  obtain ⟨S1, hS1⟩ : ∃ y : Hp, y = sI S 197 a0 0 (gI S 198 a0 0) := ⟨_, rfl⟩
  have hw := hw S1 hS1
  rw [← hS1]
  clear hS1
  exact G_sub [0] rfl (g_X12_next_8 C  hw)
/-! FirstPartsModel.wordHere()I -/
abbrev wp_X12_wordHere_104 (K2 : Int32 → Prop) (Q : Int32 → Prop) (v0 : Nat) (v1 : Int32) (v2 : Int32) (S : Hp) : Prop :=
  ((v2 = 0 → ∀ e1 : Int32, e1 = (v1 + 1) → K2 (e1)) ∧ (¬ v2 = 0 → Q v1))
abbrev wp_X12_wordHere_97 (K2 : Int32 → Prop) (K40 : Int32 → Int32 → Prop) (Q : Int32 → Prop) (v0 : Nat) (v1 : Int32) (v3 : Int32) (s0 : Int32) (S : Hp) : Prop :=
  ∀ e3 : Int32, e3 = (v3 + 1) → K40 (s0) (e3)
abbrev wp_X12_wordHere_89 (K2 : Int32 → Prop) (K40 : Int32 → Int32 → Prop) (Q : Int32 → Prop) (v0 : Nat) (v1 : Int32) (v3 : Int32) (s0 : Int32) (s1 : Int32) (S : Hp) : Prop :=
  ((s1 ≠ s0 → wp_X12_wordHere_97 K2 K40 Q (v0) (v1) (v3) ((0 : Int32)) (S)) ∧ (s1 = s0 → wp_X12_wordHere_97 K2 K40 Q (v0) (v1) (v3) ((1 : Int32)) (S)))
abbrev wb_X12_wordHere_40 (K2 : Int32 → Prop) (K40 : Int32 → Int32 → Prop) (Q : Int32 → Prop) (v0 : Nat) (v1 : Int32) (v2 : Int32) (v3 : Int32) (S : Hp) : Prop :=
  (((7 : Int32) ≤ v3 → wp_X12_wordHere_104 K2 Q (v0) (v1) (v2) (S)) ∧ (¬ (7 : Int32) ≤ v3 → ((v2 = 0 → wp_X12_wordHere_104 K2 Q (v0) (v1) (v2) (S)) ∧ (¬ v2 = 0 → kd S v0 = 13 ∧ ∃ b2, (gR S 203 v0 0) = some b2 ∧ kd S b2 = 20 ∧ vp_in (((7 : Int32) * v1) + v3) (ln S b2) ∧ kd S v0 = 13 ∧ kd S v0 = 13 ∧ (((gI S 198 v0 0) ≤ ((gI S 197 v0 0) + v3) → wp_X12_wordHere_89 K2 K40 Q (v0) (v1) (v3) ((0 : Int32)) ((gI S 0 b2 ((((7 : Int32) * v1) + v3)).toNatClampNeg)) (S)) ∧ (¬ (gI S 198 v0 0) ≤ ((gI S 197 v0 0) + v3) → kd S v0 = 13 ∧ kd S v0 = 13 ∧ ∃ b4, (gR S 195 v0 0) = some b4 ∧ kd S b4 = 20 ∧ vp_in ((gI S 197 v0 0) + v3) (ln S b4) ∧ wp_X12_wordHere_89 K2 K40 Q (v0) (v1) (v3) ((gI S 0 b4 (((gI S 197 v0 0) + v3)).toNatClampNeg)) ((gI S 0 b2 ((((7 : Int32) * v1) + v3)).toNatClampNeg)) (S)))))))
abbrev wp_X12_wordHere_40 (K2 : Int32 → Prop) (Q : Int32 → Prop) (v0 : Nat) (v1 : Int32) (v2 : Int32) (v3 : Int32) (S : Hp) : Prop :=
  Lp (X := Int32 × Int32) (fun K y => wb_X12_wordHere_40 K2 (fun w0 w1 => K (w0, w1)) Q v0 v1 y.1 y.2 S) (v2, v3)
abbrev wp_X12_wordHere_37 (K2 : Int32 → Prop) (Q : Int32 → Prop) (v0 : Nat) (v1 : Int32) (s0 : Int32) (S : Hp) : Prop :=
  wp_X12_wordHere_40 K2 Q (v0) (v1) (s0) ((0 : Int32)) (S)
abbrev wp_X12_wordHere_36 (K2 : Int32 → Prop) (Q : Int32 → Prop) (v0 : Nat) (v1 : Int32) (S : Hp) : Prop :=
  wp_X12_wordHere_37 K2 Q (v0) (v1) ((0 : Int32)) (S)
abbrev wb_X12_wordHere_2  (K2 : Int32 → Prop) (Q : Int32 → Prop) (v0 : Nat) (v1 : Int32) (S : Hp) : Prop :=
  (((4 : Int32) ≤ v1 → Q (-1 : Int32)) ∧ (¬ (4 : Int32) ≤ v1 → kd S v0 = 13 ∧ kd S v0 = 13 ∧ (((gI S 198 v0 0) ≤ (gI S 197 v0 0) → wp_X12_wordHere_36 K2 Q (v0) (v1) (S)) ∧ (¬ (gI S 198 v0 0) ≤ (gI S 197 v0 0) → kd S v0 = 13 ∧ kd S v0 = 13 ∧ (((8 : Int32) ≤ ((gI S 198 v0 0) - (gI S 197 v0 0)) → wp_X12_wordHere_36 K2 Q (v0) (v1) (S)) ∧ (¬ (8 : Int32) ≤ ((gI S 198 v0 0) - (gI S 197 v0 0)) → wp_X12_wordHere_37 K2 Q (v0) (v1) ((1 : Int32)) (S)))))))
abbrev wp_X12_wordHere_2  (Q : Int32 → Prop) (v0 : Nat) (v1 : Int32) (S : Hp) : Prop :=
  Lp (X := Int32) (fun K y => wb_X12_wordHere_2  (fun w0 => K (w0)) Q v0 y S) (v1)
abbrev wp_X12_wordHere (a0 : Nat) (S : Hp) (Q : Int32 → Prop) : Prop :=
  wp_X12_wordHere_2 Q (a0) ((0 : Int32)) (S)
set_option maxHeartbeats 4000000 in
set_option maxRecDepth 100000 in
theorem g_X12_wordHere_104 (C : Cx p s m args meth c z cX12_wordHere 4 RX12 (some .int) "wordHere") {K2 : Int32 → Prop} {Q : Int32 → Prop} {v0 : Nat} {v1 : Int32} {v2 : Int32} {S : Hp}  (hK2 : ∀ (w1 : Int32), K2 w1 → Go p l e { frames := 0, cells := 0, slots := 0, locals := 0 } s m args below meth c z 4 (MQ below (Qx z (pI S Q)) args s 0 0 (own z)) (0) (0) 2 [(0, .ref (v0)), (1, .int (w1))] [] (S)) (hw : wp_X12_wordHere_104 K2 Q v0 v1 v2 S) : Go p l e { frames := 0, cells := 0, slots := 0, locals := 0 } s m args below meth c z 4 (MQ below (Qx z (pI S Q)) args s 0 0 (own z)) (0) (0) 104 [(0, .ref (v0)), (1, .int (v1)), (2, .int (v2))] [] (S) := by
  refine G_iload_n (pc := 104) C 2 dX12_wordHere_104 rfl rfl ?_
  refine G_if_eq (pc := 105) C 110 dX12_wordHere_105 (by decide) (fun hc => ?_) (fun hc => ?_)
  · have hw := hw.1 hc
    obtain ⟨e1, he1⟩ : ∃ y : Int32, y = (v1 + 1) := ⟨_, rfl⟩
    have hw := hw e1 he1
    refine G_iinc (pc := 110) C [(1, .int (e1)), (0, .ref (v0)), (2, .int (v2))] 1 (v := e1) dX12_wordHere_110 rfl (by rw [he1]; rfl) (by decide) rfl ?_
    clear he1
    refine G_goto (pc := 113) C 2 dX12_wordHere_113 (by decide) ?_
    exact G_sub [1, 0] rfl (hK2 _ hw)
  · have hw := hw.2 hc
    refine G_iload_n (pc := 108) C 1 dX12_wordHere_108 rfl rfl ?_
    exact G_iret (pc := 109) C rfl dX12_wordHere_109 ⟨rfl, _, rfl, hw⟩
set_option maxHeartbeats 4000000 in
set_option maxRecDepth 100000 in
theorem g_X12_wordHere_97 (C : Cx p s m args meth c z cX12_wordHere 4 RX12 (some .int) "wordHere") {K2 : Int32 → Prop} {K40 : Int32 → Int32 → Prop} {Q : Int32 → Prop} {v0 : Nat} {v1 : Int32} {v3 : Int32} {s0 : Int32} {S : Hp}  (hK2 : ∀ (w1 : Int32), K2 w1 → Go p l e { frames := 0, cells := 0, slots := 0, locals := 0 } s m args below meth c z 4 (MQ below (Qx z (pI S Q)) args s 0 0 (own z)) (0) (0) 2 [(0, .ref (v0)), (1, .int (w1))] [] (S)) (hK40 : ∀ (w2 : Int32) (w3 : Int32), K40 w2 w3 → Go p l e { frames := 0, cells := 0, slots := 0, locals := 0 } s m args below meth c z 4 (MQ below (Qx z (pI S Q)) args s 0 0 (own z)) (0) (0) 40 [(0, .ref (v0)), (1, .int (v1)), (2, .int (w2)), (3, .int (w3))] [] (S)) (hw : wp_X12_wordHere_97 K2 K40 Q v0 v1 v3 s0 S) : Go p l e { frames := 0, cells := 0, slots := 0, locals := 0 } s m args below meth c z 4 (MQ below (Qx z (pI S Q)) args s 0 0 (own z)) (0) (0) 97 [(0, .ref (v0)), (1, .int (v1)), (3, .int (v3))] [.int (s0)] (S) := by
  refine G_istore_n (pc := 97) C [(2, .int (s0)), (0, .ref (v0)), (1, .int (v1)), (3, .int (v3))] dX12_wordHere_97 rfl (by decide) rfl ?_
  obtain ⟨e3, he3⟩ : ∃ y : Int32, y = (v3 + 1) := ⟨_, rfl⟩
  have hw := hw e3 he3
  refine G_iinc (pc := 98) C [(3, .int (e3)), (2, .int (s0)), (0, .ref (v0)), (1, .int (v1))] 3 (v := e3) dX12_wordHere_98 rfl (by rw [he3]; rfl) (by decide) rfl ?_
  clear he3
  refine G_goto (pc := 101) C 40 dX12_wordHere_101 (by decide) ?_
  exact G_sub [2, 3, 1, 0] rfl (hK40 _ _ hw)
set_option maxHeartbeats 4000000 in
set_option maxRecDepth 100000 in
theorem g_X12_wordHere_89 (C : Cx p s m args meth c z cX12_wordHere 4 RX12 (some .int) "wordHere") {K2 : Int32 → Prop} {K40 : Int32 → Int32 → Prop} {Q : Int32 → Prop} {v0 : Nat} {v1 : Int32} {v3 : Int32} {s0 : Int32} {s1 : Int32} {S : Hp}  (hK2 : ∀ (w1 : Int32), K2 w1 → Go p l e { frames := 0, cells := 0, slots := 0, locals := 0 } s m args below meth c z 4 (MQ below (Qx z (pI S Q)) args s 0 0 (own z)) (0) (0) 2 [(0, .ref (v0)), (1, .int (w1))] [] (S)) (hK40 : ∀ (w2 : Int32) (w3 : Int32), K40 w2 w3 → Go p l e { frames := 0, cells := 0, slots := 0, locals := 0 } s m args below meth c z 4 (MQ below (Qx z (pI S Q)) args s 0 0 (own z)) (0) (0) 40 [(0, .ref (v0)), (1, .int (v1)), (2, .int (w2)), (3, .int (w3))] [] (S)) (hw : wp_X12_wordHere_89 K2 K40 Q v0 v1 v3 s0 s1 S) : Go p l e { frames := 0, cells := 0, slots := 0, locals := 0 } s m args below meth c z 4 (MQ below (Qx z (pI S Q)) args s 0 0 (own z)) (0) (0) 89 [(0, .ref (v0)), (1, .int (v1)), (3, .int (v3))] [.int (s0), .int (s1)] (S) := by
  refine G_icmp_ne (pc := 89) C 96 dX12_wordHere_89 (by decide) (fun hc => ?_) (fun hc => ?_)
  · have hw := hw.1 hc
    refine G_iconst (pc := 96) C (v := 0) dX12_wordHere_96 (by decide) ?_
    exact G_sub [0, 1, 2] rfl (g_X12_wordHere_97 C hK2 hK40 hw)
  · have hw := hw.2 hc
    refine G_iconst (pc := 92) C (v := 1) dX12_wordHere_92 (by decide) ?_
    refine G_goto (pc := 93) C 97 dX12_wordHere_93 (by decide) ?_
    exact G_sub [0, 1, 2] rfl (g_X12_wordHere_97 C hK2 hK40 hw)
set_option maxHeartbeats 4000000 in
set_option maxRecDepth 100000 in
theorem gb_X12_wordHere_40 (C : Cx p s m args meth c z cX12_wordHere 4 RX12 (some .int) "wordHere") {K2 : Int32 → Prop} {K40 : Int32 → Int32 → Prop} {Q : Int32 → Prop} {v0 : Nat} {v1 : Int32} {v2 : Int32} {v3 : Int32} {S : Hp}  (hK2 : ∀ (w1 : Int32), K2 w1 → Go p l e { frames := 0, cells := 0, slots := 0, locals := 0 } s m args below meth c z 4 (MQ below (Qx z (pI S Q)) args s 0 0 (own z)) (0) (0) 2 [(0, .ref (v0)), (1, .int (w1))] [] (S)) (hK40 : ∀ (w2 : Int32) (w3 : Int32), K40 w2 w3 → Go p l e { frames := 0, cells := 0, slots := 0, locals := 0 } s m args below meth c z 4 (MQ below (Qx z (pI S Q)) args s 0 0 (own z)) (0) (0) 40 [(0, .ref (v0)), (1, .int (v1)), (2, .int (w2)), (3, .int (w3))] [] (S)) (hw : wb_X12_wordHere_40 K2 K40 Q v0 v1 v2 v3 S) : Go p l e { frames := 0, cells := 0, slots := 0, locals := 0 } s m args below meth c z 4 (MQ below (Qx z (pI S Q)) args s 0 0 (own z)) (0) (0) 40 [(0, .ref (v0)), (1, .int (v1)), (2, .int (v2)), (3, .int (v3))] [] (S) := by
  refine G_iload_n (pc := 40) C 3 dX12_wordHere_40 rfl rfl ?_
  refine G_bipush (pc := 41) C (v := 7) dX12_wordHere_41 (by decide) ?_
  refine G_icmp_ge (pc := 43) C 104 dX12_wordHere_43 (by decide) (fun hc => ?_) (fun hc => ?_)
  · have hw := hw.1 hc
    exact G_sub [0, 1, 2] rfl (g_X12_wordHere_104 C hK2 hw)
  · have hw := hw.2 hc
    refine G_iload_n (pc := 46) C 2 dX12_wordHere_46 rfl rfl ?_
    refine G_if_eq (pc := 47) C 104 dX12_wordHere_47 (by decide) (fun hc => ?_) (fun hc => ?_)
    · have hw := hw.1 hc
      exact G_sub [0, 1, 2] rfl (g_X12_wordHere_104 C hK2 hw)
    · have hw := hw.2 hc
      refine G_aload_n (pc := 50) C 0 dX12_wordHere_50 rfl rfl ?_
      obtain ⟨hk, hw⟩ := hw
      refine gf_RX12_19 (pc := 51) C dX12_wordHere_51 hk ?_
      refine G_bipush (pc := 54) C (v := 7) dX12_wordHere_54 (by decide) ?_
      refine G_iload_n (pc := 56) C 1 dX12_wordHere_56 rfl rfl ?_
      refine G_imul (pc := 57) C dX12_wordHere_57 ?_
      refine G_iload_n (pc := 58) C 3 dX12_wordHere_58 rfl rfl ?_
      refine G_iadd (pc := 59) C dX12_wordHere_59 ?_
      obtain ⟨b2, hq, hw⟩ := hw
      rw [hq]
      obtain ⟨hk, hi, hw⟩ := hw
      refine G_iald (pc := 60) C hk hi dX12_wordHere_60 ?_
      refine G_aload_n (pc := 61) C 0 dX12_wordHere_61 rfl rfl ?_
      obtain ⟨hk, hw⟩ := hw
      refine gf_RX12_66 (pc := 62) C dX12_wordHere_62 hk ?_
      refine G_iload_n (pc := 65) C 3 dX12_wordHere_65 rfl rfl ?_
      refine G_iadd (pc := 66) C dX12_wordHere_66 ?_
      refine G_aload_n (pc := 67) C 0 dX12_wordHere_67 rfl rfl ?_
      obtain ⟨hk, hw⟩ := hw
      refine gf_RX12_63 (pc := 68) C dX12_wordHere_68 hk ?_
      refine G_icmp_ge (pc := 71) C 88 dX12_wordHere_71 (by decide) (fun hc => ?_) (fun hc => ?_)
      · have hw := hw.1 hc
        refine G_iconst (pc := 88) C (v := 0) dX12_wordHere_88 (by decide) ?_
        exact G_sub [0, 1, 3] rfl (g_X12_wordHere_89 C hK2 hK40 hw)
      · have hw := hw.2 hc
        refine G_aload_n (pc := 74) C 0 dX12_wordHere_74 rfl rfl ?_
        obtain ⟨hk, hw⟩ := hw
        refine gf_RX12_13 (pc := 75) C dX12_wordHere_75 hk ?_
        refine G_aload_n (pc := 78) C 0 dX12_wordHere_78 rfl rfl ?_
        obtain ⟨hk, hw⟩ := hw
        refine gf_RX12_66 (pc := 79) C dX12_wordHere_79 hk ?_
        refine G_iload_n (pc := 82) C 3 dX12_wordHere_82 rfl rfl ?_
        refine G_iadd (pc := 83) C dX12_wordHere_83 ?_
        obtain ⟨b4, hq, hw⟩ := hw
        rw [hq]
        obtain ⟨hk, hi, hw⟩ := hw
        refine G_iald (pc := 84) C hk hi dX12_wordHere_84 ?_
        refine G_goto (pc := 85) C 89 dX12_wordHere_85 (by decide) ?_
        exact G_sub [0, 1, 3] rfl (g_X12_wordHere_89 C hK2 hK40 hw)
set_option maxHeartbeats 4000000 in
set_option maxRecDepth 100000 in
theorem g_X12_wordHere_40 (C : Cx p s m args meth c z cX12_wordHere 4 RX12 (some .int) "wordHere") {K2 : Int32 → Prop} {Q : Int32 → Prop} {v0 : Nat} {v1 : Int32} {v2 : Int32} {v3 : Int32} {S : Hp}  (hK2 : ∀ (w1 : Int32), K2 w1 → Go p l e { frames := 0, cells := 0, slots := 0, locals := 0 } s m args below meth c z 4 (MQ below (Qx z (pI S Q)) args s 0 0 (own z)) (0) (0) 2 [(0, .ref (v0)), (1, .int (w1))] [] (S)) (hw : wp_X12_wordHere_40 K2 Q v0 v1 v2 v3 S) : Go p l e { frames := 0, cells := 0, slots := 0, locals := 0 } s m args below meth c z 4 (MQ below (Qx z (pI S Q)) args s 0 0 (own z)) (0) (0) 40 [(0, .ref (v0)), (1, .int (v1)), (2, .int (v2)), (3, .int (v3))] [] (S) :=
  Lp_go (G := fun y : Int32 × Int32 => Go p l e { frames := 0, cells := 0, slots := 0, locals := 0 } s m args below meth c z 4 (MQ below (Qx z (pI S Q)) args s 0 0 (own z)) (0) (0) 40 [(0, .ref (v0)), (1, .int (v1)), (2, .int (y.1)), (3, .int (y.2))] [] (S)) (fun K y hK hB => gb_X12_wordHere_40 C hK2 (fun w0 w1 h => hK (w0, w1) h) hB) hw
set_option maxHeartbeats 4000000 in
set_option maxRecDepth 100000 in
theorem g_X12_wordHere_37 (C : Cx p s m args meth c z cX12_wordHere 4 RX12 (some .int) "wordHere") {K2 : Int32 → Prop} {Q : Int32 → Prop} {v0 : Nat} {v1 : Int32} {s0 : Int32} {S : Hp}  (hK2 : ∀ (w1 : Int32), K2 w1 → Go p l e { frames := 0, cells := 0, slots := 0, locals := 0 } s m args below meth c z 4 (MQ below (Qx z (pI S Q)) args s 0 0 (own z)) (0) (0) 2 [(0, .ref (v0)), (1, .int (w1))] [] (S)) (hw : wp_X12_wordHere_37 K2 Q v0 v1 s0 S) : Go p l e { frames := 0, cells := 0, slots := 0, locals := 0 } s m args below meth c z 4 (MQ below (Qx z (pI S Q)) args s 0 0 (own z)) (0) (0) 37 [(0, .ref (v0)), (1, .int (v1))] [.int (s0)] (S) := by
  refine G_istore_n (pc := 37) C [(2, .int (s0)), (0, .ref (v0)), (1, .int (v1))] dX12_wordHere_37 rfl (by decide) rfl ?_
  refine G_iconst (pc := 38) C (v := 0) dX12_wordHere_38 (by decide) ?_
  refine G_istore_n (pc := 39) C [(3, .int ((0 : Int32))), (2, .int (s0)), (0, .ref (v0)), (1, .int (v1))] dX12_wordHere_39 rfl (by decide) rfl ?_
  exact G_sub [2, 3, 1, 0] rfl (g_X12_wordHere_40 C hK2 hw)
set_option maxHeartbeats 4000000 in
set_option maxRecDepth 100000 in
theorem g_X12_wordHere_36 (C : Cx p s m args meth c z cX12_wordHere 4 RX12 (some .int) "wordHere") {K2 : Int32 → Prop} {Q : Int32 → Prop} {v0 : Nat} {v1 : Int32} {S : Hp}  (hK2 : ∀ (w1 : Int32), K2 w1 → Go p l e { frames := 0, cells := 0, slots := 0, locals := 0 } s m args below meth c z 4 (MQ below (Qx z (pI S Q)) args s 0 0 (own z)) (0) (0) 2 [(0, .ref (v0)), (1, .int (w1))] [] (S)) (hw : wp_X12_wordHere_36 K2 Q v0 v1 S) : Go p l e { frames := 0, cells := 0, slots := 0, locals := 0 } s m args below meth c z 4 (MQ below (Qx z (pI S Q)) args s 0 0 (own z)) (0) (0) 36 [(0, .ref (v0)), (1, .int (v1))] [] (S) := by
  refine G_iconst (pc := 36) C (v := 0) dX12_wordHere_36 (by decide) ?_
  exact G_sub [0, 1] rfl (g_X12_wordHere_37 C hK2 hw)
set_option maxHeartbeats 4000000 in
set_option maxRecDepth 100000 in
theorem gb_X12_wordHere_2 (C : Cx p s m args meth c z cX12_wordHere 4 RX12 (some .int) "wordHere") {K2 : Int32 → Prop} {Q : Int32 → Prop} {v0 : Nat} {v1 : Int32} {S : Hp}  (hK2 : ∀ (w1 : Int32), K2 w1 → Go p l e { frames := 0, cells := 0, slots := 0, locals := 0 } s m args below meth c z 4 (MQ below (Qx z (pI S Q)) args s 0 0 (own z)) (0) (0) 2 [(0, .ref (v0)), (1, .int (w1))] [] (S)) (hw : wb_X12_wordHere_2  K2 Q v0 v1 S) : Go p l e { frames := 0, cells := 0, slots := 0, locals := 0 } s m args below meth c z 4 (MQ below (Qx z (pI S Q)) args s 0 0 (own z)) (0) (0) 2 [(0, .ref (v0)), (1, .int (v1))] [] (S) := by
  refine G_iload_n (pc := 2) C 1 dX12_wordHere_2 rfl rfl ?_
  refine G_iconst (pc := 3) C (v := 4) dX12_wordHere_3 (by decide) ?_
  refine G_icmp_ge (pc := 4) C 116 dX12_wordHere_4 (by decide) (fun hc => ?_) (fun hc => ?_)
  · have hw := hw.1 hc
    refine G_iconst (pc := 116) C (v := -1) dX12_wordHere_116 (by decide) ?_
    exact G_iret (pc := 117) C rfl dX12_wordHere_117 ⟨rfl, _, rfl, hw⟩
  · have hw := hw.2 hc
    refine G_aload_n (pc := 7) C 0 dX12_wordHere_7 rfl rfl ?_
    obtain ⟨hk, hw⟩ := hw
    refine gf_RX12_63 (pc := 8) C dX12_wordHere_8 hk ?_
    refine G_aload_n (pc := 11) C 0 dX12_wordHere_11 rfl rfl ?_
    obtain ⟨hk, hw⟩ := hw
    refine gf_RX12_66 (pc := 12) C dX12_wordHere_12 hk ?_
    refine G_icmp_le (pc := 15) C 36 dX12_wordHere_15 (by decide) (fun hc => ?_) (fun hc => ?_)
    · have hw := hw.1 hc
      exact G_sub [0, 1] rfl (g_X12_wordHere_36 C hK2 hw)
    · have hw := hw.2 hc
      refine G_aload_n (pc := 18) C 0 dX12_wordHere_18 rfl rfl ?_
      obtain ⟨hk, hw⟩ := hw
      refine gf_RX12_63 (pc := 19) C dX12_wordHere_19 hk ?_
      refine G_aload_n (pc := 22) C 0 dX12_wordHere_22 rfl rfl ?_
      obtain ⟨hk, hw⟩ := hw
      refine gf_RX12_66 (pc := 23) C dX12_wordHere_23 hk ?_
      refine G_isub (pc := 26) C dX12_wordHere_26 ?_
      refine G_bipush (pc := 27) C (v := 8) dX12_wordHere_27 (by decide) ?_
      refine G_icmp_ge (pc := 29) C 36 dX12_wordHere_29 (by decide) (fun hc => ?_) (fun hc => ?_)
      · have hw := hw.1 hc
        exact G_sub [0, 1] rfl (g_X12_wordHere_36 C hK2 hw)
      · have hw := hw.2 hc
        refine G_iconst (pc := 32) C (v := 1) dX12_wordHere_32 (by decide) ?_
        refine G_goto (pc := 33) C 37 dX12_wordHere_33 (by decide) ?_
        exact G_sub [0, 1] rfl (g_X12_wordHere_37 C hK2 hw)
set_option maxHeartbeats 4000000 in
set_option maxRecDepth 100000 in
theorem g_X12_wordHere_2 (C : Cx p s m args meth c z cX12_wordHere 4 RX12 (some .int) "wordHere")  {Q : Int32 → Prop} {v0 : Nat} {v1 : Int32} {S : Hp}   (hw : wp_X12_wordHere_2  Q v0 v1 S) : Go p l e { frames := 0, cells := 0, slots := 0, locals := 0 } s m args below meth c z 4 (MQ below (Qx z (pI S Q)) args s 0 0 (own z)) (0) (0) 2 [(0, .ref (v0)), (1, .int (v1))] [] (S) :=
  Lp_go (G := fun y : Int32 => Go p l e { frames := 0, cells := 0, slots := 0, locals := 0 } s m args below meth c z 4 (MQ below (Qx z (pI S Q)) args s 0 0 (own z)) (0) (0) 2 [(0, .ref (v0)), (1, .int (y))] [] (S)) (fun K y hK hB => gb_X12_wordHere_2 C  (fun w0 h => hK (w0) h) hB) hw
set_option maxHeartbeats 4000000 in
set_option maxRecDepth 100000 in
theorem c_X12_wordHere (l : Launch) (z : Zt) (a0 : Nat) (S : Hp) (Q : Int32 → Prop) (hw : wp_X12_wordHere a0 S Q) : Ct l z yX12_wordHere cX12_wordHere 4 (some .int) 0 0 0 0 [.ref (a0)] S (pI S Q) := by
  refine Ct_of (by decide) (Nat.le_of_ble_eq_true rfl) ?_
  intro p e s m args below meth c C
  have C : Cx p s m args meth c z cX12_wordHere 4 RX12 (some .int) "wordHere" := C
  refine G_sub (lv' := [(0, .ref (a0))]) [0] rfl ?_
  refine G_iconst (pc := 0) C (v := 0) dX12_wordHere_0 (by decide) ?_
  refine G_istore_n (pc := 1) C [(1, .int ((0 : Int32))), (0, .ref (a0))] dX12_wordHere_1 rfl (by decide) rfl ?_
  exact G_sub [1, 0] rfl (g_X12_wordHere_2 C  hw)
/-! FirstPartsModel.reads(III)Z -/
abbrev wp_X12_reads_39  (Q : Int32 → Hp → Prop)  (S : Hp) : Prop :=
  Q (0 : Int32) S
abbrev wb_X12_reads_50  (K50 : Int32 → Int32 → Hp → Prop) (Q : Int32 → Hp → Prop) (v0 : Nat) (v1 : Int32) (v2 : Int32) (v3 : Int32) (v4 : Int32) (v5 : Int32) (S : Hp) : Prop :=
  kd S v0 = 13 ∧ (((gI S 198 v0 0) ≤ v5 → wp_X12_in ((v4).toInt64) ((v2).toInt64) ((v3).toInt64) S (fun e5 => ((e5 ≠ 0 → kd S v0 = 13 ∧ ∃ b7, (gR S 202 v0 0) = some b7 ∧ kd S b7 = 20 ∧ vp_in v1 (ln S b7) ∧ ∀ S8 : Hp, S8 = sI S 0 b7 (v1).toNatClampNeg v4 → kd S8 v0 = 13 ∧ wp_X12_next (v0) S8 (fun S10 => Q (1 : Int32) S10)) ∧ (e5 = 0 → Q (0 : Int32) S)))) ∧ (¬ (gI S 198 v0 0) ≤ v5 → kd S v0 = 13 ∧ ∃ b11, (gR S 195 v0 0) = some b11 ∧ kd S b11 = 20 ∧ vp_in v5 (ln S b11) ∧ ∀ e12 : Int32, e12 = ((((10 : Int32) * v4) + (gI S 0 b11 (v5).toNatClampNeg)) - (48 : Int32)) → ∀ e13 : Int32, e13 = (v5 + 1) → K50 (e12) (e13) (S)))
abbrev wp_X12_reads_50  (Q : Int32 → Hp → Prop) (v0 : Nat) (v1 : Int32) (v2 : Int32) (v3 : Int32) (v4 : Int32) (v5 : Int32) (S : Hp) : Prop :=
  Lp (X := Int32 × Int32 × Hp) (fun K y => wb_X12_reads_50  (fun w0 w1 w2 => K (w0, w1, w2)) Q v0 v1 v2 v3 y.1 y.2.1 y.2.2) (v4, v5, S)
abbrev wp_X12_reads (a0 : Nat) (x1 : Int32) (x2 : Int32) (x3 : Int32) (S : Hp) (Q : Int32 → Hp → Prop) : Prop :=
  kd S a0 = 13 ∧ kd S a0 = 13 ∧ (((gI S 197 a0 0) = (gI S 196 a0 0) → wp_X12_reads_39 Q (S)) ∧ (¬ (gI S 197 a0 0) = (gI S 196 a0 0) → kd S a0 = 13 ∧ kd S a0 = 13 ∧ ∃ b1, (gR S 195 a0 0) = some b1 ∧ kd S b1 = 20 ∧ vp_in (gI S 197 a0 0) (ln S b1) ∧ wp_X12_isDigit ((gI S 0 b1 ((gI S 197 a0 0)).toNatClampNeg)) S (fun e2 => ((e2 = 0 → wp_X12_reads_39 Q (S)) ∧ (¬ e2 = 0 → kd S a0 = 13 ∧ kd S a0 = 13 ∧ ((((gI S 198 a0 0) - (gI S 197 a0 0)) ≤ (2 : Int32) → kd S a0 = 13 ∧ ∀ e4 : Int32, e4 = (gI S 197 a0 0) → wp_X12_reads_50 Q (a0) (x1) (x2) (x3) ((0 : Int32)) (e4) (S)) ∧ (¬ ((gI S 198 a0 0) - (gI S 197 a0 0)) ≤ (2 : Int32) → wp_X12_reads_39 Q (S))))))))
set_option maxHeartbeats 4000000 in
set_option maxRecDepth 100000 in
theorem g_X12_reads_39 (C : Cx p s m args meth c z cX12_reads 6 RX12 (some .boolean) "reads")  {Q : Int32 → Hp → Prop}  {S : Hp}   (hw : wp_X12_reads_39  Q  S) : Go p l e { frames := 3, cells := 0, slots := 0, locals := 67 } s m args below meth c z 6 (MQ below (Qx z (wI Q)) args s 0 0 (own z)) (0) (0) 39 [] [] (S) := by
  refine G_iconst (pc := 39) C (v := 0) dX12_reads_39 (by decide) ?_
  exact G_zret (pc := 40) C rfl (by decide) dX12_reads_40 ⟨_, rfl, hw⟩
set_option maxHeartbeats 4000000 in
set_option maxRecDepth 100000 in
theorem gb_X12_reads_50 (C : Cx p s m args meth c z cX12_reads 6 RX12 (some .boolean) "reads") {K50 : Int32 → Int32 → Hp → Prop} {Q : Int32 → Hp → Prop} {v0 : Nat} {v1 : Int32} {v2 : Int32} {v3 : Int32} {v4 : Int32} {v5 : Int32} {S : Hp}  (hK50 : ∀ (w4 : Int32) (w5 : Int32) (S2 : Hp), K50 w4 w5 S2 → Go p l e { frames := 3, cells := 0, slots := 0, locals := 67 } s m args below meth c z 6 (MQ below (Qx z (wI Q)) args s 0 0 (own z)) (0) (0) 50 [(0, .ref (v0)), (1, .int (v1)), (2, .int (v2)), (3, .int (v3)), (4, .int (w4)), (5, .int (w5))] [] (S2)) (hw : wb_X12_reads_50  K50 Q v0 v1 v2 v3 v4 v5 S) : Go p l e { frames := 3, cells := 0, slots := 0, locals := 67 } s m args below meth c z 6 (MQ below (Qx z (wI Q)) args s 0 0 (own z)) (0) (0) 50 [(0, .ref (v0)), (1, .int (v1)), (2, .int (v2)), (3, .int (v3)), (4, .int (v4)), (5, .int (v5))] [] (S) := by
  refine G_iload (pc := 50) C 5 dX12_reads_50 rfl ?_
  refine G_aload_n (pc := 52) C 0 dX12_reads_52 rfl rfl ?_
  obtain ⟨hk, hw⟩ := hw
  refine gf_RX12_63 (pc := 53) C dX12_reads_53 hk ?_
  refine G_icmp_ge (pc := 56) C 83 dX12_reads_56 (by decide) (fun hc => ?_) (fun hc => ?_)
  · have hw := hw.1 hc
    refine G_iload (pc := 83) C 4 dX12_reads_83 rfl ?_
    refine G_i2l (pc := 85) C dX12_reads_85 ?_
    refine G_iload_n (pc := 86) C 2 dX12_reads_86 rfl rfl ?_
    refine G_i2l (pc := 87) C dX12_reads_87 ?_
    refine G_iload_n (pc := 88) C 3 dX12_reads_88 rfl rfl ?_
    refine G_i2l (pc := 89) C dX12_reads_89 ?_
    refine cl_RX12_31 (pc := 90) C (c_X12_in l z ((v4).toInt64) ((v2).toInt64) ((v3).toInt64) S _ hw) ⟨Nat.le_of_ble_eq_true rfl, Nat.le_of_ble_eq_true rfl⟩ dX12_reads_90 (Nat.le_of_ble_eq_true rfl) (fun v S' hp => ?_)
    clear hw
    obtain ⟨hS, e5, rfl, hw⟩ := hp
    subst S'
    refine G_if_ne (pc := 93) C 98 dX12_reads_93 (by decide) (fun hc => ?_) (fun hc => ?_)
    · have hw := hw.1 hc
      refine G_aload_n (pc := 98) C 0 dX12_reads_98 rfl rfl ?_
      obtain ⟨hk, hw⟩ := hw
      refine gf_RX12_16 (pc := 99) C dX12_reads_99 hk ?_
      refine G_iload_n (pc := 102) C 1 dX12_reads_102 rfl rfl ?_
      refine G_iload (pc := 103) C 4 dX12_reads_103 rfl ?_
      obtain ⟨b7, hq, hw⟩ := hw
      rw [hq]
      obtain ⟨hk, hi, hw⟩ := hw
      refine G_iast (pc := 105) C hk hi dX12_reads_105 ?_
      obtain ⟨S8, hS8⟩ : ∃ y : Hp, y = sI S 0 b7 (v1).toNatClampNeg v4 := ⟨_, rfl⟩
      have hw := hw S8 hS8
      rw [← hS8]
      clear hS8
      refine G_aload_n (pc := 106) C 0 dX12_reads_106 rfl rfl ?_
      obtain ⟨hk, hw⟩ := hw
      refine cl_RX12_76 (pc := 107) C (c_X12_next l z (v0) S8 _ hw) ⟨Nat.le_of_ble_eq_true rfl, Nat.le_of_ble_eq_true rfl⟩ hk dX12_reads_107 (Nat.le_of_ble_eq_true rfl) (fun v S' hp => ?_)
      clear hw
      obtain ⟨rfl, hw⟩ := hp
      generalize S' = S10 at hw ⊢
      refine G_iconst (pc := 110) C (v := 1) dX12_reads_110 (by decide) ?_
      exact G_zret (pc := 111) C rfl (by decide) dX12_reads_111 ⟨_, rfl, hw⟩
    · have hw := hw.2 hc
      refine G_iconst (pc := 96) C (v := 0) dX12_reads_96 (by decide) ?_
      exact G_zret (pc := 97) C rfl (by decide) dX12_reads_97 ⟨_, rfl, hw⟩
  · have hw := hw.2 hc
    refine G_bipush (pc := 59) C (v := 10) dX12_reads_59 (by decide) ?_
    refine G_iload (pc := 61) C 4 dX12_reads_61 rfl ?_
    refine G_imul (pc := 63) C dX12_reads_63 ?_
    refine G_aload_n (pc := 64) C 0 dX12_reads_64 rfl rfl ?_
    obtain ⟨hk, hw⟩ := hw
    refine gf_RX12_13 (pc := 65) C dX12_reads_65 hk ?_
    refine G_iload (pc := 68) C 5 dX12_reads_68 rfl ?_
    obtain ⟨b11, hq, hw⟩ := hw
    rw [hq]
    obtain ⟨hk, hi, hw⟩ := hw
    refine G_iald (pc := 70) C hk hi dX12_reads_70 ?_
    refine G_iadd (pc := 71) C dX12_reads_71 ?_
    refine G_bipush (pc := 72) C (v := 48) dX12_reads_72 (by decide) ?_
    refine G_isub (pc := 74) C dX12_reads_74 ?_
    refine G_topi (fun e12 he12 => ?_)
    have hw := hw e12 he12
    clear he12
    refine G_istore (pc := 75) C [(4, .int (e12)), (0, .ref (v0)), (1, .int (v1)), (2, .int (v2)), (3, .int (v3)), (5, .int (v5))] dX12_reads_75 (by decide) rfl ?_
    obtain ⟨e13, he13⟩ : ∃ y : Int32, y = (v5 + 1) := ⟨_, rfl⟩
    have hw := hw e13 he13
    refine G_iinc (pc := 77) C [(5, .int (e13)), (4, .int (e12)), (0, .ref (v0)), (1, .int (v1)), (2, .int (v2)), (3, .int (v3))] 5 (v := e13) dX12_reads_77 rfl (by rw [he13]; rfl) (by decide) rfl ?_
    clear he13
    refine G_goto (pc := 80) C 50 dX12_reads_80 (by decide) ?_
    exact G_sub [2, 3, 4, 5, 1, 0] rfl (hK50 _ _ _ hw)
set_option maxHeartbeats 4000000 in
set_option maxRecDepth 100000 in
theorem g_X12_reads_50 (C : Cx p s m args meth c z cX12_reads 6 RX12 (some .boolean) "reads")  {Q : Int32 → Hp → Prop} {v0 : Nat} {v1 : Int32} {v2 : Int32} {v3 : Int32} {v4 : Int32} {v5 : Int32} {S : Hp}   (hw : wp_X12_reads_50  Q v0 v1 v2 v3 v4 v5 S) : Go p l e { frames := 3, cells := 0, slots := 0, locals := 67 } s m args below meth c z 6 (MQ below (Qx z (wI Q)) args s 0 0 (own z)) (0) (0) 50 [(0, .ref (v0)), (1, .int (v1)), (2, .int (v2)), (3, .int (v3)), (4, .int (v4)), (5, .int (v5))] [] (S) :=
  Lp_go (G := fun y : Int32 × Int32 × Hp => Go p l e { frames := 3, cells := 0, slots := 0, locals := 67 } s m args below meth c z 6 (MQ below (Qx z (wI Q)) args s 0 0 (own z)) (0) (0) 50 [(0, .ref (v0)), (1, .int (v1)), (2, .int (v2)), (3, .int (v3)), (4, .int (y.1)), (5, .int (y.2.1))] [] (y.2.2)) (fun K y hK hB => gb_X12_reads_50 C  (fun w0 w1 w2 h => hK (w0, w1, w2) h) hB) hw
set_option maxHeartbeats 4000000 in
set_option maxRecDepth 100000 in
theorem c_X12_reads (l : Launch) (z : Zt) (a0 : Nat) (x1 : Int32) (x2 : Int32) (x3 : Int32) (S : Hp) (Q : Int32 → Hp → Prop) (hw : wp_X12_reads a0 x1 x2 x3 S Q) : Ct l z yX12_reads cX12_reads 6 (some .boolean) 3 67 0 0 [.ref (a0), .int (x1), .int (x2), .int (x3)] S (wI Q) := by
  refine Ct_of (by decide) (Nat.le_of_ble_eq_true rfl) ?_
  intro p e s m args below meth c C
  have C : Cx p s m args meth c z cX12_reads 6 RX12 (some .boolean) "reads" := C
  refine G_sub (lv' := [(0, .ref (a0)), (1, .int (x1)), (2, .int (x2)), (3, .int (x3))]) [0, 1, 2, 3] rfl ?_
  refine G_aload_n (pc := 0) C 0 dX12_reads_0 rfl rfl ?_
  obtain ⟨hk, hw⟩ := hw
  refine gf_RX12_66 (pc := 1) C dX12_reads_1 hk ?_
  refine G_aload_n (pc := 4) C 0 dX12_reads_4 rfl rfl ?_
  obtain ⟨hk, hw⟩ := hw
  refine gf_RX12_51 (pc := 5) C dX12_reads_5 hk ?_
  refine G_icmp_eq (pc := 8) C 39 dX12_reads_8 (by decide) (fun hc => ?_) (fun hc => ?_)
  · have hw := hw.1 hc
    exact G_sub [] rfl (g_X12_reads_39 C  hw)
  · have hw := hw.2 hc
    refine G_aload_n (pc := 11) C 0 dX12_reads_11 rfl rfl ?_
    obtain ⟨hk, hw⟩ := hw
    refine gf_RX12_13 (pc := 12) C dX12_reads_12 hk ?_
    refine G_aload_n (pc := 15) C 0 dX12_reads_15 rfl rfl ?_
    obtain ⟨hk, hw⟩ := hw
    refine gf_RX12_66 (pc := 16) C dX12_reads_16 hk ?_
    obtain ⟨b1, hq, hw⟩ := hw
    rw [hq]
    obtain ⟨hk, hi, hw⟩ := hw
    refine G_iald (pc := 19) C hk hi dX12_reads_19 ?_
    refine cl_RX12_73 (pc := 20) C (c_X12_isDigit l z ((gI S 0 b1 ((gI S 197 a0 0)).toNatClampNeg)) S _ hw) ⟨Nat.le_of_ble_eq_true rfl, Nat.le_of_ble_eq_true rfl⟩ dX12_reads_20 (Nat.le_of_ble_eq_true rfl) (fun v S' hp => ?_)
    clear hw
    obtain ⟨hS, e2, rfl, hw⟩ := hp
    subst S'
    refine G_if_eq (pc := 23) C 39 dX12_reads_23 (by decide) (fun hc => ?_) (fun hc => ?_)
    · have hw := hw.1 hc
      exact G_sub [] rfl (g_X12_reads_39 C  hw)
    · have hw := hw.2 hc
      refine G_aload_n (pc := 26) C 0 dX12_reads_26 rfl rfl ?_
      obtain ⟨hk, hw⟩ := hw
      refine gf_RX12_63 (pc := 27) C dX12_reads_27 hk ?_
      refine G_aload_n (pc := 30) C 0 dX12_reads_30 rfl rfl ?_
      obtain ⟨hk, hw⟩ := hw
      refine gf_RX12_66 (pc := 31) C dX12_reads_31 hk ?_
      refine G_isub (pc := 34) C dX12_reads_34 ?_
      refine G_iconst (pc := 35) C (v := 2) dX12_reads_35 (by decide) ?_
      refine G_icmp_le (pc := 36) C 41 dX12_reads_36 (by decide) (fun hc => ?_) (fun hc => ?_)
      · have hw := hw.1 hc
        refine G_iconst (pc := 41) C (v := 0) dX12_reads_41 (by decide) ?_
        refine G_istore (pc := 42) C [(4, .int ((0 : Int32))), (0, .ref (a0)), (1, .int (x1)), (2, .int (x2)), (3, .int (x3))] dX12_reads_42 (by decide) rfl ?_
        refine G_aload_n (pc := 44) C 1 dX12_reads_44 rfl rfl ?_
        obtain ⟨hk, hw⟩ := hw
        refine gf_RX12_66 (pc := 45) C dX12_reads_45 hk ?_
        refine G_topi (fun e4 he4 => ?_)
        have hw := hw e4 he4
        clear he4
        refine G_istore (pc := 48) C [(5, .int (e4)), (4, .int ((0 : Int32))), (0, .ref (a0)), (1, .int (x1)), (2, .int (x2)), (3, .int (x3))] dX12_reads_48 (by decide) rfl ?_
        exact G_sub [2, 3, 4, 5, 1, 0] rfl (g_X12_reads_50 C  hw)
      · have hw := hw.2 hc
        exact G_sub [] rfl (g_X12_reads_39 C  hw)
/-! FirstPartsModel.readsPart()Z -/
abbrev wp_X12_readsPart_40  (Q : Int32 → Hp → Prop)  (S : Hp) : Prop :=
  Q (0 : Int32) S
abbrev wp_X12_readsPart_83  (Q : Int32 → Hp → Prop)  (S : Hp) : Prop :=
  Q (0 : Int32) S
abbrev wp_X12_readsPart_197  (Q : Int32 → Hp → Prop)  (S : Hp) : Prop :=
  Q (1 : Int32) S
abbrev wb_X12_readsPart_162  (K162 : Int32 → Hp → Prop) (Q : Int32 → Hp → Prop) (v0 : Nat) (v1 : Int32) (v2 : Int32) (v3 : Int32) (v4 : Int32) (S : Hp) : Prop :=
  ((v2 ≤ v4 → wp_X12_readsPart_197 Q (S)) ∧ (¬ v2 ≤ v4 → kd S v0 = 13 ∧ kd S v0 = 13 ∧ ∃ b26, (gR S 195 v0 0) = some b26 ∧ kd S b26 = 20 ∧ vp_in (v1 + v4) (ln S b26) ∧ ∃ b27, (gR S 193 v0 0) = some b27 ∧ kd S b27 = 20 ∧ vp_in ((v3 + (3 : Int32)) + v4) (ln S b27) ∧ ∀ S28 : Hp, S28 = sI S 0 b27 (((v3 + (3 : Int32)) + v4)).toNatClampNeg ((gI S 0 b26 ((v1 + v4)).toNatClampNeg) - (97 : Int32)) → ∀ e29 : Int32, e29 = (v4 + 1) → K162 (e29) (S28)))
abbrev wp_X12_readsPart_162  (Q : Int32 → Hp → Prop) (v0 : Nat) (v1 : Int32) (v2 : Int32) (v3 : Int32) (v4 : Int32) (S : Hp) : Prop :=
  Lp (X := Int32 × Hp) (fun K y => wb_X12_readsPart_162  (fun w0 w1 => K (w0, w1)) Q v0 v1 v2 v3 y.1 y.2) (v4, S)
abbrev wp_X12_readsPart (a0 : Nat) (S : Hp) (Q : Int32 → Hp → Prop) : Prop :=
  kd S a0 = 13 ∧ kd S a0 = 13 ∧ (((gI S 197 a0 0) = (gI S 196 a0 0) → wp_X12_readsPart_40 Q (S)) ∧ (¬ (gI S 197 a0 0) = (gI S 196 a0 0) → kd S a0 = 13 ∧ kd S a0 = 13 ∧ ∃ b1, (gR S 195 a0 0) = some b1 ∧ kd S b1 = 20 ∧ vp_in (gI S 197 a0 0) (ln S b1) ∧ wp_X12_isSmall ((gI S 0 b1 ((gI S 197 a0 0)).toNatClampNeg)) S (fun e2 => ((e2 = 0 → wp_X12_readsPart_40 Q (S)) ∧ (¬ e2 = 0 → kd S a0 = 13 ∧ kd S a0 = 13 ∧ ((((gI S 198 a0 0) - (gI S 197 a0 0)) ≤ (12 : Int32) → kd S a0 = 13 ∧ ∀ e4 : Int32, e4 = (gI S 197 a0 0) → kd S a0 = 13 ∧ kd S a0 = 13 ∧ ∀ e5 : Int32, e5 = ((gI S 198 a0 0) - (gI S 197 a0 0)) → kd S a0 = 13 ∧ wp_X12_next (a0) S (fun S7 => kd S7 a0 = 13 ∧ wp_X12_reads (a0) ((0 : Int32)) ((1 : Int32)) ((8 : Int32)) S7 (fun e8 S9 => ((e8 = 0 → wp_X12_readsPart_83 Q (S9)) ∧ (¬ e8 = 0 → kd S9 a0 = 13 ∧ wp_X12_reads (a0) ((1 : Int32)) ((1 : Int32)) ((9 : Int32)) S9 (fun e10 S11 => ((e10 ≠ 0 → kd S11 a0 = 13 ∧ kd S11 a0 = 13 ∧ ∀ S12 : Hp, S12 = sI S11 199 a0 0 ((gI S11 199 a0 0) + (1 : Int32)) → kd S12 a0 = 13 ∧ (((gI S12 201 a0 0) = 0 → wp_X12_readsPart_197 Q (S12)) ∧ (¬ (gI S12 201 a0 0) = 0 → kd S12 a0 = 13 ∧ ∃ b13, (gR S12 193 a0 0) = some b13 ∧ kd S12 b13 = 20 ∧ vp_in (2 : Int32) (ln S12 b13) ∧ wp_X12_at ((gI S12 0 b13 ((2 : Int32)).toNatClampNeg)) S12 (fun e14 => kd S12 a0 = 13 ∧ ∃ b16, (gR S12 193 a0 0) = some b16 ∧ kd S12 b16 = 20 ∧ vp_in (2 : Int32) (ln S12 b16) ∧ kd S12 b16 = 20 ∧ vp_in (2 : Int32) (ln S12 b16) ∧ ∀ S17 : Hp, S17 = sI S12 0 b16 ((2 : Int32)).toNatClampNeg ((gI S12 0 b16 ((2 : Int32)).toNatClampNeg) + (1 : Int32)) → kd S17 a0 = 13 ∧ ∃ b18, (gR S17 193 a0 0) = some b18 ∧ kd S17 b18 = 20 ∧ vp_in (e14 + (0 : Int32)) (ln S17 b18) ∧ ∀ S19 : Hp, S19 = sI S17 0 b18 ((e14 + (0 : Int32))).toNatClampNeg e5 → kd S19 a0 = 13 ∧ kd S19 a0 = 13 ∧ ∃ b20, (gR S19 202 a0 0) = some b20 ∧ kd S19 b20 = 20 ∧ vp_in (0 : Int32) (ln S19 b20) ∧ ∃ b21, (gR S19 193 a0 0) = some b21 ∧ kd S19 b21 = 20 ∧ vp_in (e14 + (1 : Int32)) (ln S19 b21) ∧ ∀ S22 : Hp, S22 = sI S19 0 b21 ((e14 + (1 : Int32))).toNatClampNeg (gI S19 0 b20 ((0 : Int32)).toNatClampNeg) → kd S22 a0 = 13 ∧ kd S22 a0 = 13 ∧ ∃ b23, (gR S22 202 a0 0) = some b23 ∧ kd S22 b23 = 20 ∧ vp_in (1 : Int32) (ln S22 b23) ∧ ∃ b24, (gR S22 193 a0 0) = some b24 ∧ kd S22 b24 = 20 ∧ vp_in (e14 + (2 : Int32)) (ln S22 b24) ∧ ∀ S25 : Hp, S25 = sI S22 0 b24 ((e14 + (2 : Int32))).toNatClampNeg (gI S22 0 b23 ((1 : Int32)).toNatClampNeg) → wp_X12_readsPart_162 Q (a0) (e4) (e5) (e14) ((0 : Int32)) (S25))))) ∧ (e10 = 0 → wp_X12_readsPart_83 Q (S11))))))))) ∧ (¬ ((gI S 198 a0 0) - (gI S 197 a0 0)) ≤ (12 : Int32) → wp_X12_readsPart_40 Q (S))))))))
set_option maxHeartbeats 4000000 in
set_option maxRecDepth 100000 in
theorem g_X12_readsPart_40 (C : Cx p s m args meth c z cX12_readsPart 5 RX12 (some .boolean) "readsPart")  {Q : Int32 → Hp → Prop}  {S : Hp}   (hw : wp_X12_readsPart_40  Q  S) : Go p l e { frames := 4, cells := 0, slots := 0, locals := 92 } s m args below meth c z 5 (MQ below (Qx z (wI Q)) args s 0 0 (own z)) (0) (0) 40 [] [] (S) := by
  refine G_iconst (pc := 40) C (v := 0) dX12_readsPart_40 (by decide) ?_
  exact G_zret (pc := 41) C rfl (by decide) dX12_readsPart_41 ⟨_, rfl, hw⟩
set_option maxHeartbeats 4000000 in
set_option maxRecDepth 100000 in
theorem g_X12_readsPart_83 (C : Cx p s m args meth c z cX12_readsPart 5 RX12 (some .boolean) "readsPart")  {Q : Int32 → Hp → Prop}  {S : Hp}   (hw : wp_X12_readsPart_83  Q  S) : Go p l e { frames := 4, cells := 0, slots := 0, locals := 92 } s m args below meth c z 5 (MQ below (Qx z (wI Q)) args s 0 0 (own z)) (0) (0) 83 [] [] (S) := by
  refine G_iconst (pc := 83) C (v := 0) dX12_readsPart_83 (by decide) ?_
  exact G_zret (pc := 84) C rfl (by decide) dX12_readsPart_84 ⟨_, rfl, hw⟩
set_option maxHeartbeats 4000000 in
set_option maxRecDepth 100000 in
theorem g_X12_readsPart_197 (C : Cx p s m args meth c z cX12_readsPart 5 RX12 (some .boolean) "readsPart")  {Q : Int32 → Hp → Prop}  {S : Hp}   (hw : wp_X12_readsPart_197  Q  S) : Go p l e { frames := 4, cells := 0, slots := 0, locals := 92 } s m args below meth c z 5 (MQ below (Qx z (wI Q)) args s 0 0 (own z)) (0) (0) 197 [] [] (S) := by
  refine G_iconst (pc := 197) C (v := 1) dX12_readsPart_197 (by decide) ?_
  exact G_zret (pc := 198) C rfl (by decide) dX12_readsPart_198 ⟨_, rfl, hw⟩
set_option maxHeartbeats 4000000 in
set_option maxRecDepth 100000 in
theorem gb_X12_readsPart_162 (C : Cx p s m args meth c z cX12_readsPart 5 RX12 (some .boolean) "readsPart") {K162 : Int32 → Hp → Prop} {Q : Int32 → Hp → Prop} {v0 : Nat} {v1 : Int32} {v2 : Int32} {v3 : Int32} {v4 : Int32} {S : Hp}  (hK162 : ∀ (w4 : Int32) (S2 : Hp), K162 w4 S2 → Go p l e { frames := 4, cells := 0, slots := 0, locals := 92 } s m args below meth c z 5 (MQ below (Qx z (wI Q)) args s 0 0 (own z)) (0) (0) 162 [(0, .ref (v0)), (1, .int (v1)), (2, .int (v2)), (3, .int (v3)), (4, .int (w4))] [] (S2)) (hw : wb_X12_readsPart_162  K162 Q v0 v1 v2 v3 v4 S) : Go p l e { frames := 4, cells := 0, slots := 0, locals := 92 } s m args below meth c z 5 (MQ below (Qx z (wI Q)) args s 0 0 (own z)) (0) (0) 162 [(0, .ref (v0)), (1, .int (v1)), (2, .int (v2)), (3, .int (v3)), (4, .int (v4))] [] (S) := by
  refine G_iload (pc := 162) C 4 dX12_readsPart_162 rfl ?_
  refine G_iload_n (pc := 164) C 2 dX12_readsPart_164 rfl rfl ?_
  refine G_icmp_ge (pc := 165) C 197 dX12_readsPart_165 (by decide) (fun hc => ?_) (fun hc => ?_)
  · have hw := hw.1 hc
    exact G_sub [] rfl (g_X12_readsPart_197 C  hw)
  · have hw := hw.2 hc
    refine G_aload_n (pc := 168) C 0 dX12_readsPart_168 rfl rfl ?_
    obtain ⟨hk, hw⟩ := hw
    refine gf_RX12_7 (pc := 169) C dX12_readsPart_169 hk ?_
    refine G_iload_n (pc := 172) C 3 dX12_readsPart_172 rfl rfl ?_
    refine G_iconst (pc := 173) C (v := 3) dX12_readsPart_173 (by decide) ?_
    refine G_iadd (pc := 174) C dX12_readsPart_174 ?_
    refine G_iload (pc := 175) C 4 dX12_readsPart_175 rfl ?_
    refine G_iadd (pc := 177) C dX12_readsPart_177 ?_
    refine G_aload_n (pc := 178) C 0 dX12_readsPart_178 rfl rfl ?_
    obtain ⟨hk, hw⟩ := hw
    refine gf_RX12_13 (pc := 179) C dX12_readsPart_179 hk ?_
    refine G_iload_n (pc := 182) C 1 dX12_readsPart_182 rfl rfl ?_
    refine G_iload (pc := 183) C 4 dX12_readsPart_183 rfl ?_
    refine G_iadd (pc := 185) C dX12_readsPart_185 ?_
    obtain ⟨b26, hq, hw⟩ := hw
    rw [hq]
    obtain ⟨hk, hi, hw⟩ := hw
    refine G_iald (pc := 186) C hk hi dX12_readsPart_186 ?_
    refine G_bipush (pc := 187) C (v := 97) dX12_readsPart_187 (by decide) ?_
    refine G_isub (pc := 189) C dX12_readsPart_189 ?_
    obtain ⟨b27, hq, hw⟩ := hw
    rw [hq]
    obtain ⟨hk, hi, hw⟩ := hw
    refine G_iast (pc := 190) C hk hi dX12_readsPart_190 ?_
    obtain ⟨S28, hS28⟩ : ∃ y : Hp, y = sI S 0 b27 (((v3 + (3 : Int32)) + v4)).toNatClampNeg ((gI S 0 b26 ((v1 + v4)).toNatClampNeg) - (97 : Int32)) := ⟨_, rfl⟩
    have hw := hw S28 hS28
    rw [← hS28]
    clear hS28
    obtain ⟨e29, he29⟩ : ∃ y : Int32, y = (v4 + 1) := ⟨_, rfl⟩
    have hw := hw e29 he29
    refine G_iinc (pc := 191) C [(4, .int (e29)), (0, .ref (v0)), (1, .int (v1)), (2, .int (v2)), (3, .int (v3))] 4 (v := e29) dX12_readsPart_191 rfl (by rw [he29]; rfl) (by decide) rfl ?_
    clear he29
    refine G_goto (pc := 194) C 162 dX12_readsPart_194 (by decide) ?_
    exact G_sub [1, 2, 3, 4, 0] rfl (hK162 _ _ hw)
set_option maxHeartbeats 4000000 in
set_option maxRecDepth 100000 in
theorem g_X12_readsPart_162 (C : Cx p s m args meth c z cX12_readsPart 5 RX12 (some .boolean) "readsPart")  {Q : Int32 → Hp → Prop} {v0 : Nat} {v1 : Int32} {v2 : Int32} {v3 : Int32} {v4 : Int32} {S : Hp}   (hw : wp_X12_readsPart_162  Q v0 v1 v2 v3 v4 S) : Go p l e { frames := 4, cells := 0, slots := 0, locals := 92 } s m args below meth c z 5 (MQ below (Qx z (wI Q)) args s 0 0 (own z)) (0) (0) 162 [(0, .ref (v0)), (1, .int (v1)), (2, .int (v2)), (3, .int (v3)), (4, .int (v4))] [] (S) :=
  Lp_go (G := fun y : Int32 × Hp => Go p l e { frames := 4, cells := 0, slots := 0, locals := 92 } s m args below meth c z 5 (MQ below (Qx z (wI Q)) args s 0 0 (own z)) (0) (0) 162 [(0, .ref (v0)), (1, .int (v1)), (2, .int (v2)), (3, .int (v3)), (4, .int (y.1))] [] (y.2)) (fun K y hK hB => gb_X12_readsPart_162 C  (fun w0 w1 h => hK (w0, w1) h) hB) hw
set_option maxHeartbeats 4000000 in
set_option maxRecDepth 100000 in
theorem c_X12_readsPart (l : Launch) (z : Zt) (a0 : Nat) (S : Hp) (Q : Int32 → Hp → Prop) (hw : wp_X12_readsPart a0 S Q) : Ct l z yX12_readsPart cX12_readsPart 5 (some .boolean) 4 92 0 0 [.ref (a0)] S (wI Q) := by
  refine Ct_of (by decide) (Nat.le_of_ble_eq_true rfl) ?_
  intro p e s m args below meth c C
  have C : Cx p s m args meth c z cX12_readsPart 5 RX12 (some .boolean) "readsPart" := C
  refine G_sub (lv' := [(0, .ref (a0))]) [0] rfl ?_
  refine G_aload_n (pc := 0) C 0 dX12_readsPart_0 rfl rfl ?_
  obtain ⟨hk, hw⟩ := hw
  refine gf_RX12_66 (pc := 1) C dX12_readsPart_1 hk ?_
  refine G_aload_n (pc := 4) C 0 dX12_readsPart_4 rfl rfl ?_
  obtain ⟨hk, hw⟩ := hw
  refine gf_RX12_51 (pc := 5) C dX12_readsPart_5 hk ?_
  refine G_icmp_eq (pc := 8) C 40 dX12_readsPart_8 (by decide) (fun hc => ?_) (fun hc => ?_)
  · have hw := hw.1 hc
    exact G_sub [] rfl (g_X12_readsPart_40 C  hw)
  · have hw := hw.2 hc
    refine G_aload_n (pc := 11) C 0 dX12_readsPart_11 rfl rfl ?_
    obtain ⟨hk, hw⟩ := hw
    refine gf_RX12_13 (pc := 12) C dX12_readsPart_12 hk ?_
    refine G_aload_n (pc := 15) C 0 dX12_readsPart_15 rfl rfl ?_
    obtain ⟨hk, hw⟩ := hw
    refine gf_RX12_66 (pc := 16) C dX12_readsPart_16 hk ?_
    obtain ⟨b1, hq, hw⟩ := hw
    rw [hq]
    obtain ⟨hk, hi, hw⟩ := hw
    refine G_iald (pc := 19) C hk hi dX12_readsPart_19 ?_
    refine cl_RX12_69 (pc := 20) C (c_X12_isSmall l z ((gI S 0 b1 ((gI S 197 a0 0)).toNatClampNeg)) S _ hw) ⟨Nat.le_of_ble_eq_true rfl, Nat.le_of_ble_eq_true rfl⟩ dX12_readsPart_20 (Nat.le_of_ble_eq_true rfl) (fun v S' hp => ?_)
    clear hw
    obtain ⟨hS, e2, rfl, hw⟩ := hp
    subst S'
    refine G_if_eq (pc := 23) C 40 dX12_readsPart_23 (by decide) (fun hc => ?_) (fun hc => ?_)
    · have hw := hw.1 hc
      exact G_sub [] rfl (g_X12_readsPart_40 C  hw)
    · have hw := hw.2 hc
      refine G_aload_n (pc := 26) C 0 dX12_readsPart_26 rfl rfl ?_
      obtain ⟨hk, hw⟩ := hw
      refine gf_RX12_63 (pc := 27) C dX12_readsPart_27 hk ?_
      refine G_aload_n (pc := 30) C 0 dX12_readsPart_30 rfl rfl ?_
      obtain ⟨hk, hw⟩ := hw
      refine gf_RX12_66 (pc := 31) C dX12_readsPart_31 hk ?_
      refine G_isub (pc := 34) C dX12_readsPart_34 ?_
      refine G_bipush (pc := 35) C (v := 12) dX12_readsPart_35 (by decide) ?_
      refine G_icmp_le (pc := 37) C 42 dX12_readsPart_37 (by decide) (fun hc => ?_) (fun hc => ?_)
      · have hw := hw.1 hc
        refine G_aload_n (pc := 42) C 0 dX12_readsPart_42 rfl rfl ?_
        obtain ⟨hk, hw⟩ := hw
        refine gf_RX12_66 (pc := 43) C dX12_readsPart_43 hk ?_
        refine G_topi (fun e4 he4 => ?_)
        have hw := hw e4 he4
        clear he4
        refine G_istore_n (pc := 46) C [(1, .int (e4)), (0, .ref (a0))] dX12_readsPart_46 rfl (by decide) rfl ?_
        refine G_aload_n (pc := 47) C 1 dX12_readsPart_47 rfl rfl ?_
        obtain ⟨hk, hw⟩ := hw
        refine gf_RX12_63 (pc := 48) C dX12_readsPart_48 hk ?_
        refine G_aload_n (pc := 51) C 1 dX12_readsPart_51 rfl rfl ?_
        obtain ⟨hk, hw⟩ := hw
        refine gf_RX12_66 (pc := 52) C dX12_readsPart_52 hk ?_
        refine G_isub (pc := 55) C dX12_readsPart_55 ?_
        refine G_topi (fun e5 he5 => ?_)
        have hw := hw e5 he5
        clear he5
        refine G_istore_n (pc := 56) C [(2, .int (e5)), (1, .int (e4)), (0, .ref (a0))] dX12_readsPart_56 rfl (by decide) rfl ?_
        refine G_aload_n (pc := 57) C 2 dX12_readsPart_57 rfl rfl ?_
        obtain ⟨hk, hw⟩ := hw
        refine cl_RX12_76 (pc := 58) C (c_X12_next l z (a0) S _ hw) ⟨Nat.le_of_ble_eq_true rfl, Nat.le_of_ble_eq_true rfl⟩ hk dX12_readsPart_58 (Nat.le_of_ble_eq_true rfl) (fun v S' hp => ?_)
        clear hw
        obtain ⟨rfl, hw⟩ := hp
        generalize S' = S7 at hw ⊢
        refine G_aload_n (pc := 61) C 2 dX12_readsPart_61 rfl rfl ?_
        refine G_iconst (pc := 62) C (v := 0) dX12_readsPart_62 (by decide) ?_
        refine G_iconst (pc := 63) C (v := 1) dX12_readsPart_63 (by decide) ?_
        refine G_bipush (pc := 64) C (v := 8) dX12_readsPart_64 (by decide) ?_
        obtain ⟨hk, hw⟩ := hw
        refine cl_RX12_79 (pc := 66) C (c_X12_reads l z (a0) ((0 : Int32)) ((1 : Int32)) ((8 : Int32)) S7 _ hw) ⟨Nat.le_of_ble_eq_true rfl, Nat.le_of_ble_eq_true rfl⟩ hk dX12_readsPart_66 (Nat.le_of_ble_eq_true rfl) (fun v S' hp => ?_)
        clear hw
        obtain ⟨e8, rfl, hw⟩ := hp
        generalize S' = S9 at hw ⊢
        refine G_if_eq (pc := 69) C 83 dX12_readsPart_69 (by decide) (fun hc => ?_) (fun hc => ?_)
        · have hw := hw.1 hc
          exact G_sub [] rfl (g_X12_readsPart_83 C  hw)
        · have hw := hw.2 hc
          refine G_aload_n (pc := 72) C 2 dX12_readsPart_72 rfl rfl ?_
          refine G_iconst (pc := 73) C (v := 1) dX12_readsPart_73 (by decide) ?_
          refine G_iconst (pc := 74) C (v := 1) dX12_readsPart_74 (by decide) ?_
          refine G_bipush (pc := 75) C (v := 9) dX12_readsPart_75 (by decide) ?_
          obtain ⟨hk, hw⟩ := hw
          refine cl_RX12_79 (pc := 77) C (c_X12_reads l z (a0) ((1 : Int32)) ((1 : Int32)) ((9 : Int32)) S9 _ hw) ⟨Nat.le_of_ble_eq_true rfl, Nat.le_of_ble_eq_true rfl⟩ hk dX12_readsPart_77 (Nat.le_of_ble_eq_true rfl) (fun v S' hp => ?_)
          clear hw
          obtain ⟨e10, rfl, hw⟩ := hp
          generalize S' = S11 at hw ⊢
          refine G_if_ne (pc := 80) C 85 dX12_readsPart_80 (by decide) (fun hc => ?_) (fun hc => ?_)
          · have hw := hw.1 hc
            refine G_aload_n (pc := 85) C 2 dX12_readsPart_85 rfl rfl ?_
            refine G_dup (pc := 86) C dX12_readsPart_86 rfl ?_
            obtain ⟨hk, hw⟩ := hw
            refine gf_RX12_83 (pc := 87) C dX12_readsPart_87 hk ?_
            refine G_iconst (pc := 90) C (v := 1) dX12_readsPart_90 (by decide) ?_
            refine G_iadd (pc := 91) C dX12_readsPart_91 ?_
            obtain ⟨hk, hw⟩ := hw
            refine pf_RX12_83 (pc := 92) C dX12_readsPart_92 hk ?_
            obtain ⟨S12, hS12⟩ : ∃ y : Hp, y = sI S11 199 a0 0 ((gI S11 199 a0 0) + (1 : Int32)) := ⟨_, rfl⟩
            have hw := hw S12 hS12
            rw [← hS12]
            clear hS12
            refine G_aload_n (pc := 95) C 2 dX12_readsPart_95 rfl rfl ?_
            obtain ⟨hk, hw⟩ := hw
            refine gf_RX12_86 (pc := 96) C dX12_readsPart_96 hk ?_
            refine G_if_eq (pc := 99) C 197 dX12_readsPart_99 (by decide) (fun hc => ?_) (fun hc => ?_)
            · have hw := hw.1 hc
              exact G_sub [] rfl (g_X12_readsPart_197 C  hw)
            · have hw := hw.2 hc
              refine G_aload_n (pc := 102) C 2 dX12_readsPart_102 rfl rfl ?_
              obtain ⟨hk, hw⟩ := hw
              refine gf_RX12_7 (pc := 103) C dX12_readsPart_103 hk ?_
              refine G_iconst (pc := 106) C (v := 2) dX12_readsPart_106 (by decide) ?_
              obtain ⟨b13, hq, hw⟩ := hw
              rw [hq]
              obtain ⟨hk, hi, hw⟩ := hw
              refine G_iald (pc := 107) C hk hi dX12_readsPart_107 ?_
              refine cl_RX12_35 (pc := 108) C (c_X12_at l z ((gI S12 0 b13 ((2 : Int32)).toNatClampNeg)) S12 _ hw) ⟨Nat.le_of_ble_eq_true rfl, Nat.le_of_ble_eq_true rfl⟩ dX12_readsPart_108 (Nat.le_of_ble_eq_true rfl) (fun v S' hp => ?_)
              clear hw
              obtain ⟨hS, e14, rfl, hw⟩ := hp
              subst S'
              refine G_istore_n (pc := 111) C [(3, .int (e14)), (2, .int (e5)), (1, .int (e4)), (0, .ref (a0))] dX12_readsPart_111 rfl (by decide) rfl ?_
              refine G_aload_n (pc := 112) C 3 dX12_readsPart_112 rfl rfl ?_
              obtain ⟨hk, hw⟩ := hw
              refine gf_RX12_7 (pc := 113) C dX12_readsPart_113 hk ?_
              refine G_iconst (pc := 116) C (v := 2) dX12_readsPart_116 (by decide) ?_
              obtain ⟨b16, hq, hw⟩ := hw
              rw [hq]
              refine G_dup2 (pc := 117) C dX12_readsPart_117 rfl rfl ?_
              obtain ⟨hk, hi, hw⟩ := hw
              refine G_iald (pc := 118) C hk hi dX12_readsPart_118 ?_
              refine G_iconst (pc := 119) C (v := 1) dX12_readsPart_119 (by decide) ?_
              refine G_iadd (pc := 120) C dX12_readsPart_120 ?_
              obtain ⟨hk, hi, hw⟩ := hw
              refine G_iast (pc := 121) C hk hi dX12_readsPart_121 ?_
              obtain ⟨S17, hS17⟩ : ∃ y : Hp, y = sI S12 0 b16 ((2 : Int32)).toNatClampNeg ((gI S12 0 b16 ((2 : Int32)).toNatClampNeg) + (1 : Int32)) := ⟨_, rfl⟩
              have hw := hw S17 hS17
              rw [← hS17]
              clear hS17
              refine G_aload_n (pc := 122) C 3 dX12_readsPart_122 rfl rfl ?_
              obtain ⟨hk, hw⟩ := hw
              refine gf_RX12_7 (pc := 123) C dX12_readsPart_123 hk ?_
              refine G_iload_n (pc := 126) C 0 dX12_readsPart_126 rfl rfl ?_
              refine G_iconst (pc := 127) C (v := 0) dX12_readsPart_127 (by decide) ?_
              refine G_iadd (pc := 128) C dX12_readsPart_128 ?_
              refine G_iload_n (pc := 129) C 1 dX12_readsPart_129 rfl rfl ?_
              obtain ⟨b18, hq, hw⟩ := hw
              rw [hq]
              obtain ⟨hk, hi, hw⟩ := hw
              refine G_iast (pc := 130) C hk hi dX12_readsPart_130 ?_
              obtain ⟨S19, hS19⟩ : ∃ y : Hp, y = sI S17 0 b18 ((e14 + (0 : Int32))).toNatClampNeg e5 := ⟨_, rfl⟩
              have hw := hw S19 hS19
              rw [← hS19]
              clear hS19
              refine G_aload_n (pc := 131) C 3 dX12_readsPart_131 rfl rfl ?_
              obtain ⟨hk, hw⟩ := hw
              refine gf_RX12_7 (pc := 132) C dX12_readsPart_132 hk ?_
              refine G_iload_n (pc := 135) C 0 dX12_readsPart_135 rfl rfl ?_
              refine G_iconst (pc := 136) C (v := 1) dX12_readsPart_136 (by decide) ?_
              refine G_iadd (pc := 137) C dX12_readsPart_137 ?_
              refine G_aload_n (pc := 138) C 3 dX12_readsPart_138 rfl rfl ?_
              obtain ⟨hk, hw⟩ := hw
              refine gf_RX12_16 (pc := 139) C dX12_readsPart_139 hk ?_
              refine G_iconst (pc := 142) C (v := 0) dX12_readsPart_142 (by decide) ?_
              obtain ⟨b20, hq, hw⟩ := hw
              rw [hq]
              obtain ⟨hk, hi, hw⟩ := hw
              refine G_iald (pc := 143) C hk hi dX12_readsPart_143 ?_
              obtain ⟨b21, hq, hw⟩ := hw
              rw [hq]
              obtain ⟨hk, hi, hw⟩ := hw
              refine G_iast (pc := 144) C hk hi dX12_readsPart_144 ?_
              obtain ⟨S22, hS22⟩ : ∃ y : Hp, y = sI S19 0 b21 ((e14 + (1 : Int32))).toNatClampNeg (gI S19 0 b20 ((0 : Int32)).toNatClampNeg) := ⟨_, rfl⟩
              have hw := hw S22 hS22
              rw [← hS22]
              clear hS22
              refine G_aload_n (pc := 145) C 3 dX12_readsPart_145 rfl rfl ?_
              obtain ⟨hk, hw⟩ := hw
              refine gf_RX12_7 (pc := 146) C dX12_readsPart_146 hk ?_
              refine G_iload_n (pc := 149) C 0 dX12_readsPart_149 rfl rfl ?_
              refine G_iconst (pc := 150) C (v := 2) dX12_readsPart_150 (by decide) ?_
              refine G_iadd (pc := 151) C dX12_readsPart_151 ?_
              refine G_aload_n (pc := 152) C 3 dX12_readsPart_152 rfl rfl ?_
              obtain ⟨hk, hw⟩ := hw
              refine gf_RX12_16 (pc := 153) C dX12_readsPart_153 hk ?_
              refine G_iconst (pc := 156) C (v := 1) dX12_readsPart_156 (by decide) ?_
              obtain ⟨b23, hq, hw⟩ := hw
              rw [hq]
              obtain ⟨hk, hi, hw⟩ := hw
              refine G_iald (pc := 157) C hk hi dX12_readsPart_157 ?_
              obtain ⟨b24, hq, hw⟩ := hw
              rw [hq]
              obtain ⟨hk, hi, hw⟩ := hw
              refine G_iast (pc := 158) C hk hi dX12_readsPart_158 ?_
              obtain ⟨S25, hS25⟩ : ∃ y : Hp, y = sI S22 0 b24 ((e14 + (2 : Int32))).toNatClampNeg (gI S22 0 b23 ((1 : Int32)).toNatClampNeg) := ⟨_, rfl⟩
              have hw := hw S25 hS25
              rw [← hS25]
              clear hS25
              refine G_iconst (pc := 159) C (v := 0) dX12_readsPart_159 (by decide) ?_
              refine G_istore (pc := 160) C [(4, .int ((0 : Int32))), (3, .int (e14)), (2, .int (e5)), (1, .int (e4)), (0, .ref (a0))] dX12_readsPart_160 (by decide) rfl ?_
              exact G_sub [4, 3, 2, 1, 0] rfl (g_X12_readsPart_162 C  hw)
          · have hw := hw.2 hc
            exact G_sub [] rfl (g_X12_readsPart_83 C  hw)
      · have hw := hw.2 hc
        exact G_sub [] rfl (g_X12_readsPart_40 C  hw)
/-! FirstPartsModel.readsClause()Z -/
abbrev wp_X12_readsClause_24  (Q : Int32 → Hp → Prop)  (S : Hp) : Prop :=
  Q (0 : Int32) S
abbrev wp_X12_readsClause_131  (Q : Int32 → Hp → Prop) (v2 : Int32) (S : Hp) : Prop :=
  (v2 = 0 ∨ v2 = 1) ∧ Q v2 S
abbrev wp_X12_readsClause_124  (Q : Int32 → Hp → Prop) (v0 : Nat) (v2 : Int32) (s0 : Int32) (s1 : Option Nat) (S : Hp) : Prop :=
  kd S v0 = 13 ∧ ∃ b7, (gR S 202 v0 0) = some b7 ∧ kd S b7 = 20 ∧ vp_in (0 : Int32) (ln S b7) ∧ ∃ b8, s1 = some b8 ∧ kd S b8 = 20 ∧ vp_in s0 (ln S b8) ∧ ∀ S9 : Hp, S9 = sI S 0 b8 (s0).toNatClampNeg (gI S 0 b7 ((0 : Int32)).toNatClampNeg) → wp_X12_readsClause_131 Q (v2) (S9)
abbrev wp_X12_readsClause_95  (Q : Int32 → Hp → Prop) (v0 : Nat) (v1 : Int32) (s0 : Int32) (s1 : Int32) (s2 : Int32) (s3 : Nat) (S : Hp) : Prop :=
  kd S s3 = 13 ∧ wp_X12_reads (s3) (s2) (s1) (s0) S (fun e5 S6 => ((e5 = 0 → wp_X12_readsClause_131 Q (e5) (S6)) ∧ (¬ e5 = 0 → kd S6 v0 = 13 ∧ (((gI S6 201 v0 0) = 0 → wp_X12_readsClause_131 Q (e5) (S6)) ∧ (¬ (gI S6 201 v0 0) = 0 → kd S6 v0 = 13 ∧ ((v1 ≠ (1 : Int32) → wp_X12_readsClause_124 Q (v0) (e5) ((1 : Int32)) ((gR S6 193 v0 0)) (S6)) ∧ (v1 = (1 : Int32) → wp_X12_readsClause_124 Q (v0) (e5) ((0 : Int32)) ((gR S6 193 v0 0)) (S6))))))))
abbrev wp_X12_readsClause_78  (Q : Int32 → Hp → Prop)  (S : Hp) : Prop :=
  Q (1 : Int32) S
abbrev wp_X12_readsClause_26  (Q : Int32 → Hp → Prop) (v0 : Nat) (v1 : Int32) (S : Hp) : Prop :=
  kd S v0 = 13 ∧ wp_X12_next (v0) S (fun S4 => ((v1 ≠ (3 : Int32) → ((v1 ≠ 0 → ((v1 ≠ (1 : Int32) → wp_X12_readsClause_95 Q (v0) (v1) ((40 : Int32)) ((1 : Int32)) ((0 : Int32)) (v0) (S4)) ∧ (v1 = (1 : Int32) → wp_X12_readsClause_95 Q (v0) (v1) ((8 : Int32)) ((1 : Int32)) ((0 : Int32)) (v0) (S4)))) ∧ (v1 = 0 → kd S4 v0 = 13 ∧ ∀ S10 : Hp, S10 = sI S4 199 v0 0 (0 : Int32) → kd S10 v0 = 13 ∧ (((gI S10 201 v0 0) = 0 → wp_X12_readsClause_78 Q (S10)) ∧ (¬ (gI S10 201 v0 0) = 0 → kd S10 v0 = 13 ∧ ∃ b11, (gR S10 193 v0 0) = some b11 ∧ kd S10 b11 = 20 ∧ vp_in (0 : Int32) (ln S10 b11) ∧ ∀ S12 : Hp, S12 = sI S10 0 b11 ((0 : Int32)).toNatClampNeg (4 : Int32) → kd S12 v0 = 13 ∧ ∃ b13, (gR S12 193 v0 0) = some b13 ∧ kd S12 b13 = 20 ∧ vp_in (1 : Int32) (ln S12 b13) ∧ ∀ S14 : Hp, S14 = sI S12 0 b13 ((1 : Int32)).toNatClampNeg (20 : Int32) → kd S14 v0 = 13 ∧ ∃ b15, (gR S14 193 v0 0) = some b15 ∧ kd S14 b15 = 20 ∧ vp_in (2 : Int32) (ln S14 b15) ∧ ∀ S16 : Hp, S16 = sI S14 0 b15 ((2 : Int32)).toNatClampNeg (0 : Int32) → wp_X12_readsClause_78 Q (S16)))))) ∧ (v1 = (3 : Int32) → kd S4 v0 = 13 ∧ wp_X12_readsPart (v0) S4 (fun e17 S18 => (e17 = 0 ∨ e17 = 1) ∧ Q e17 S18))))
abbrev wp_X12_readsClause (a0 : Nat) (S : Hp) (Q : Int32 → Hp → Prop) : Prop :=
  kd S a0 = 13 ∧ wp_X12_wordHere (a0) S (fun e1 => ((e1 = (-1 : Int32) → wp_X12_readsClause_24 Q (S)) ∧ (¬ e1 = (-1 : Int32) → ((e1 ≠ (3 : Int32) → wp_X12_readsClause_26 Q (a0) (e1) (S)) ∧ (e1 = (3 : Int32) → kd S a0 = 13 ∧ (((gI S 199 a0 0) ≠ (6 : Int32) → wp_X12_readsClause_26 Q (a0) (e1) (S)) ∧ ((gI S 199 a0 0) = (6 : Int32) → wp_X12_readsClause_24 Q (S))))))))
set_option maxHeartbeats 4000000 in
set_option maxRecDepth 100000 in
theorem g_X12_readsClause_24 (C : Cx p s m args meth c z cX12_readsClause 3 RX12 (some .boolean) "readsClause")  {Q : Int32 → Hp → Prop}  {S : Hp}   (hw : wp_X12_readsClause_24  Q  S) : Go p l e { frames := 5, cells := 0, slots := 0, locals := 116 } s m args below meth c z 3 (MQ below (Qx z (wI Q)) args s 0 0 (own z)) (0) (0) 24 [] [] (S) := by
  refine G_iconst (pc := 24) C (v := 0) dX12_readsClause_24 (by decide) ?_
  exact G_zret (pc := 25) C rfl (by decide) dX12_readsClause_25 ⟨_, rfl, hw⟩
set_option maxHeartbeats 4000000 in
set_option maxRecDepth 100000 in
theorem g_X12_readsClause_131 (C : Cx p s m args meth c z cX12_readsClause 3 RX12 (some .boolean) "readsClause")  {Q : Int32 → Hp → Prop} {v2 : Int32} {S : Hp}   (hw : wp_X12_readsClause_131  Q v2 S) : Go p l e { frames := 5, cells := 0, slots := 0, locals := 116 } s m args below meth c z 3 (MQ below (Qx z (wI Q)) args s 0 0 (own z)) (0) (0) 131 [(2, .int (v2))] [] (S) := by
  refine G_iload_n (pc := 131) C 0 dX12_readsClause_131 rfl rfl ?_
  obtain ⟨hb, hw⟩ := hw
  exact G_zret (pc := 132) C rfl hb dX12_readsClause_132 ⟨_, rfl, hw⟩
set_option maxHeartbeats 4000000 in
set_option maxRecDepth 100000 in
theorem g_X12_readsClause_124 (C : Cx p s m args meth c z cX12_readsClause 3 RX12 (some .boolean) "readsClause")  {Q : Int32 → Hp → Prop} {v0 : Nat} {v2 : Int32} {s0 : Int32} {s1 : Option Nat} {S : Hp}   (hw : wp_X12_readsClause_124  Q v0 v2 s0 s1 S) : Go p l e { frames := 5, cells := 0, slots := 0, locals := 116 } s m args below meth c z 3 (MQ below (Qx z (wI Q)) args s 0 0 (own z)) (0) (0) 124 [(0, .ref (v0)), (2, .int (v2))] [.int (s0), va_rf (s1)] (S) := by
  refine G_aload_n (pc := 124) C 0 dX12_readsClause_124 rfl rfl ?_
  obtain ⟨hk, hw⟩ := hw
  refine gf_RX12_16 (pc := 125) C dX12_readsClause_125 hk ?_
  refine G_iconst (pc := 128) C (v := 0) dX12_readsClause_128 (by decide) ?_
  obtain ⟨b7, hq, hw⟩ := hw
  rw [hq]
  obtain ⟨hk, hi, hw⟩ := hw
  refine G_iald (pc := 129) C hk hi dX12_readsClause_129 ?_
  obtain ⟨b8, hq, hw⟩ := hw
  rw [hq]
  obtain ⟨hk, hi, hw⟩ := hw
  refine G_iast (pc := 130) C hk hi dX12_readsClause_130 ?_
  obtain ⟨S9, hS9⟩ : ∃ y : Hp, y = sI S 0 b8 (s0).toNatClampNeg (gI S 0 b7 ((0 : Int32)).toNatClampNeg) := ⟨_, rfl⟩
  have hw := hw S9 hS9
  rw [← hS9]
  clear hS9
  exact G_sub [1] rfl (g_X12_readsClause_131 C  hw)
set_option maxHeartbeats 4000000 in
set_option maxRecDepth 100000 in
theorem g_X12_readsClause_95 (C : Cx p s m args meth c z cX12_readsClause 3 RX12 (some .boolean) "readsClause")  {Q : Int32 → Hp → Prop} {v0 : Nat} {v1 : Int32} {s0 : Int32} {s1 : Int32} {s2 : Int32} {s3 : Nat} {S : Hp}   (hw : wp_X12_readsClause_95  Q v0 v1 s0 s1 s2 s3 S) : Go p l e { frames := 5, cells := 0, slots := 0, locals := 116 } s m args below meth c z 3 (MQ below (Qx z (wI Q)) args s 0 0 (own z)) (0) (0) 95 [(0, .ref (v0)), (1, .int (v1))] [.int (s0), .int (s1), .int (s2), .ref (s3)] (S) := by
  obtain ⟨hk, hw⟩ := hw
  refine cl_RX12_79 (pc := 95) C (c_X12_reads l z (s3) (s2) (s1) (s0) S _ hw) ⟨Nat.le_of_ble_eq_true rfl, Nat.le_of_ble_eq_true rfl⟩ hk dX12_readsClause_95 (Nat.le_of_ble_eq_true rfl) (fun v S' hp => ?_)
  clear hw
  obtain ⟨e5, rfl, hw⟩ := hp
  generalize S' = S6 at hw ⊢
  refine G_istore_n (pc := 98) C [(2, .int (e5)), (0, .ref (v0)), (1, .int (v1))] dX12_readsClause_98 rfl (by decide) rfl ?_
  refine G_iload_n (pc := 99) C 0 dX12_readsClause_99 rfl rfl ?_
  refine G_if_eq (pc := 100) C 131 dX12_readsClause_100 (by decide) (fun hc => ?_) (fun hc => ?_)
  · have hw := hw.1 hc
    exact G_sub [0] rfl (g_X12_readsClause_131 C  hw)
  · have hw := hw.2 hc
    refine G_aload_n (pc := 103) C 1 dX12_readsClause_103 rfl rfl ?_
    obtain ⟨hk, hw⟩ := hw
    refine gf_RX12_86 (pc := 104) C dX12_readsClause_104 hk ?_
    refine G_if_eq (pc := 107) C 131 dX12_readsClause_107 (by decide) (fun hc => ?_) (fun hc => ?_)
    · have hw := hw.1 hc
      exact G_sub [0] rfl (g_X12_readsClause_131 C  hw)
    · have hw := hw.2 hc
      refine G_aload_n (pc := 110) C 1 dX12_readsClause_110 rfl rfl ?_
      obtain ⟨hk, hw⟩ := hw
      refine gf_RX12_7 (pc := 111) C dX12_readsClause_111 hk ?_
      refine G_iload_n (pc := 114) C 2 dX12_readsClause_114 rfl rfl ?_
      refine G_iconst (pc := 115) C (v := 1) dX12_readsClause_115 (by decide) ?_
      refine G_icmp_ne (pc := 116) C 123 dX12_readsClause_116 (by decide) (fun hc => ?_) (fun hc => ?_)
      · have hw := hw.1 hc
        refine G_iconst (pc := 123) C (v := 1) dX12_readsClause_123 (by decide) ?_
        exact G_sub [1, 0] rfl (g_X12_readsClause_124 C  hw)
      · have hw := hw.2 hc
        refine G_iconst (pc := 119) C (v := 0) dX12_readsClause_119 (by decide) ?_
        refine G_goto (pc := 120) C 124 dX12_readsClause_120 (by decide) ?_
        exact G_sub [1, 0] rfl (g_X12_readsClause_124 C  hw)
set_option maxHeartbeats 4000000 in
set_option maxRecDepth 100000 in
theorem g_X12_readsClause_78 (C : Cx p s m args meth c z cX12_readsClause 3 RX12 (some .boolean) "readsClause")  {Q : Int32 → Hp → Prop}  {S : Hp}   (hw : wp_X12_readsClause_78  Q  S) : Go p l e { frames := 5, cells := 0, slots := 0, locals := 116 } s m args below meth c z 3 (MQ below (Qx z (wI Q)) args s 0 0 (own z)) (0) (0) 78 [] [] (S) := by
  refine G_iconst (pc := 78) C (v := 1) dX12_readsClause_78 (by decide) ?_
  exact G_zret (pc := 79) C rfl (by decide) dX12_readsClause_79 ⟨_, rfl, hw⟩
set_option maxHeartbeats 4000000 in
set_option maxRecDepth 100000 in
theorem g_X12_readsClause_26 (C : Cx p s m args meth c z cX12_readsClause 3 RX12 (some .boolean) "readsClause")  {Q : Int32 → Hp → Prop} {v0 : Nat} {v1 : Int32} {S : Hp}   (hw : wp_X12_readsClause_26  Q v0 v1 S) : Go p l e { frames := 5, cells := 0, slots := 0, locals := 116 } s m args below meth c z 3 (MQ below (Qx z (wI Q)) args s 0 0 (own z)) (0) (0) 26 [(0, .ref (v0)), (1, .int (v1))] [] (S) := by
  refine G_aload_n (pc := 26) C 0 dX12_readsClause_26 rfl rfl ?_
  obtain ⟨hk, hw⟩ := hw
  refine cl_RX12_76 (pc := 27) C (c_X12_next l z (v0) S _ hw) ⟨Nat.le_of_ble_eq_true rfl, Nat.le_of_ble_eq_true rfl⟩ hk dX12_readsClause_27 (Nat.le_of_ble_eq_true rfl) (fun v S' hp => ?_)
  clear hw
  obtain ⟨rfl, hw⟩ := hp
  generalize S' = S4 at hw ⊢
  refine G_iload_n (pc := 30) C 1 dX12_readsClause_30 rfl rfl ?_
  refine G_iconst (pc := 31) C (v := 3) dX12_readsClause_31 (by decide) ?_
  refine G_icmp_ne (pc := 32) C 40 dX12_readsClause_32 (by decide) (fun hc => ?_) (fun hc => ?_)
  · have hw := hw.1 hc
    refine G_iload_n (pc := 40) C 1 dX12_readsClause_40 rfl rfl ?_
    refine G_if_ne (pc := 41) C 80 dX12_readsClause_41 (by decide) (fun hc => ?_) (fun hc => ?_)
    · have hw := hw.1 hc
      refine G_aload_n (pc := 80) C 0 dX12_readsClause_80 rfl rfl ?_
      refine G_iconst (pc := 81) C (v := 0) dX12_readsClause_81 (by decide) ?_
      refine G_iconst (pc := 82) C (v := 1) dX12_readsClause_82 (by decide) ?_
      refine G_iload_n (pc := 83) C 1 dX12_readsClause_83 rfl rfl ?_
      refine G_iconst (pc := 84) C (v := 1) dX12_readsClause_84 (by decide) ?_
      refine G_icmp_ne (pc := 85) C 93 dX12_readsClause_85 (by decide) (fun hc => ?_) (fun hc => ?_)
      · have hw := hw.1 hc
        refine G_bipush (pc := 93) C (v := 40) dX12_readsClause_93 (by decide) ?_
        exact G_sub [0, 1] rfl (g_X12_readsClause_95 C  hw)
      · have hw := hw.2 hc
        refine G_bipush (pc := 88) C (v := 8) dX12_readsClause_88 (by decide) ?_
        refine G_goto (pc := 90) C 95 dX12_readsClause_90 (by decide) ?_
        exact G_sub [0, 1] rfl (g_X12_readsClause_95 C  hw)
    · have hw := hw.2 hc
      refine G_aload_n (pc := 44) C 0 dX12_readsClause_44 rfl rfl ?_
      refine G_iconst (pc := 45) C (v := 0) dX12_readsClause_45 (by decide) ?_
      obtain ⟨hk, hw⟩ := hw
      refine pf_RX12_83 (pc := 46) C dX12_readsClause_46 hk ?_
      obtain ⟨S10, hS10⟩ : ∃ y : Hp, y = sI S4 199 v0 0 (0 : Int32) := ⟨_, rfl⟩
      have hw := hw S10 hS10
      rw [← hS10]
      clear hS10
      refine G_aload_n (pc := 49) C 0 dX12_readsClause_49 rfl rfl ?_
      obtain ⟨hk, hw⟩ := hw
      refine gf_RX12_86 (pc := 50) C dX12_readsClause_50 hk ?_
      refine G_if_eq (pc := 53) C 78 dX12_readsClause_53 (by decide) (fun hc => ?_) (fun hc => ?_)
      · have hw := hw.1 hc
        exact G_sub [] rfl (g_X12_readsClause_78 C  hw)
      · have hw := hw.2 hc
        refine G_aload_n (pc := 56) C 0 dX12_readsClause_56 rfl rfl ?_
        obtain ⟨hk, hw⟩ := hw
        refine gf_RX12_7 (pc := 57) C dX12_readsClause_57 hk ?_
        refine G_iconst (pc := 60) C (v := 0) dX12_readsClause_60 (by decide) ?_
        refine G_iconst (pc := 61) C (v := 4) dX12_readsClause_61 (by decide) ?_
        obtain ⟨b11, hq, hw⟩ := hw
        rw [hq]
        obtain ⟨hk, hi, hw⟩ := hw
        refine G_iast (pc := 62) C hk hi dX12_readsClause_62 ?_
        obtain ⟨S12, hS12⟩ : ∃ y : Hp, y = sI S10 0 b11 ((0 : Int32)).toNatClampNeg (4 : Int32) := ⟨_, rfl⟩
        have hw := hw S12 hS12
        rw [← hS12]
        clear hS12
        refine G_aload_n (pc := 63) C 0 dX12_readsClause_63 rfl rfl ?_
        obtain ⟨hk, hw⟩ := hw
        refine gf_RX12_7 (pc := 64) C dX12_readsClause_64 hk ?_
        refine G_iconst (pc := 67) C (v := 1) dX12_readsClause_67 (by decide) ?_
        refine G_bipush (pc := 68) C (v := 20) dX12_readsClause_68 (by decide) ?_
        obtain ⟨b13, hq, hw⟩ := hw
        rw [hq]
        obtain ⟨hk, hi, hw⟩ := hw
        refine G_iast (pc := 70) C hk hi dX12_readsClause_70 ?_
        obtain ⟨S14, hS14⟩ : ∃ y : Hp, y = sI S12 0 b13 ((1 : Int32)).toNatClampNeg (20 : Int32) := ⟨_, rfl⟩
        have hw := hw S14 hS14
        rw [← hS14]
        clear hS14
        refine G_aload_n (pc := 71) C 0 dX12_readsClause_71 rfl rfl ?_
        obtain ⟨hk, hw⟩ := hw
        refine gf_RX12_7 (pc := 72) C dX12_readsClause_72 hk ?_
        refine G_iconst (pc := 75) C (v := 2) dX12_readsClause_75 (by decide) ?_
        refine G_iconst (pc := 76) C (v := 0) dX12_readsClause_76 (by decide) ?_
        obtain ⟨b15, hq, hw⟩ := hw
        rw [hq]
        obtain ⟨hk, hi, hw⟩ := hw
        refine G_iast (pc := 77) C hk hi dX12_readsClause_77 ?_
        obtain ⟨S16, hS16⟩ : ∃ y : Hp, y = sI S14 0 b15 ((2 : Int32)).toNatClampNeg (0 : Int32) := ⟨_, rfl⟩
        have hw := hw S16 hS16
        rw [← hS16]
        clear hS16
        exact G_sub [] rfl (g_X12_readsClause_78 C  hw)
  · have hw := hw.2 hc
    refine G_aload_n (pc := 35) C 0 dX12_readsClause_35 rfl rfl ?_
    obtain ⟨hk, hw⟩ := hw
    refine cl_RX12_94 (pc := 36) C (c_X12_readsPart l z (v0) S4 _ hw) ⟨Nat.le_of_ble_eq_true rfl, Nat.le_of_ble_eq_true rfl⟩ hk dX12_readsClause_36 (Nat.le_of_ble_eq_true rfl) (fun v S' hp => ?_)
    clear hw
    obtain ⟨e17, rfl, hw⟩ := hp
    generalize S' = S18 at hw ⊢
    obtain ⟨hb, hw⟩ := hw
    exact G_zret (pc := 39) C rfl hb dX12_readsClause_39 ⟨_, rfl, hw⟩
set_option maxHeartbeats 4000000 in
set_option maxRecDepth 100000 in
theorem c_X12_readsClause (l : Launch) (z : Zt) (a0 : Nat) (S : Hp) (Q : Int32 → Hp → Prop) (hw : wp_X12_readsClause a0 S Q) : Ct l z yX12_readsClause cX12_readsClause 3 (some .boolean) 5 116 0 0 [.ref (a0)] S (wI Q) := by
  refine Ct_of (by decide) (Nat.le_of_ble_eq_true rfl) ?_
  intro p e s m args below meth c C
  have C : Cx p s m args meth c z cX12_readsClause 3 RX12 (some .boolean) "readsClause" := C
  refine G_sub (lv' := [(0, .ref (a0))]) [0] rfl ?_
  refine G_aload_n (pc := 0) C 0 dX12_readsClause_0 rfl rfl ?_
  obtain ⟨hk, hw⟩ := hw
  refine cl_RX12_90 (pc := 1) C (c_X12_wordHere l z (a0) S _ hw) ⟨Nat.le_of_ble_eq_true rfl, Nat.le_of_ble_eq_true rfl⟩ hk dX12_readsClause_1 (Nat.le_of_ble_eq_true rfl) (fun v S' hp => ?_)
  clear hw
  obtain ⟨hS, e1, rfl, hw⟩ := hp
  subst S'
  refine G_istore_n (pc := 4) C [(1, .int (e1)), (0, .ref (a0))] dX12_readsClause_4 rfl (by decide) rfl ?_
  refine G_iload_n (pc := 5) C 0 dX12_readsClause_5 rfl rfl ?_
  refine G_iconst (pc := 6) C (v := -1) dX12_readsClause_6 (by decide) ?_
  refine G_icmp_eq (pc := 7) C 24 dX12_readsClause_7 (by decide) (fun hc => ?_) (fun hc => ?_)
  · have hw := hw.1 hc
    exact G_sub [] rfl (g_X12_readsClause_24 C  hw)
  · have hw := hw.2 hc
    refine G_iload_n (pc := 10) C 0 dX12_readsClause_10 rfl rfl ?_
    refine G_iconst (pc := 11) C (v := 3) dX12_readsClause_11 (by decide) ?_
    refine G_icmp_ne (pc := 12) C 26 dX12_readsClause_12 (by decide) (fun hc => ?_) (fun hc => ?_)
    · have hw := hw.1 hc
      exact G_sub [1, 0] rfl (g_X12_readsClause_26 C  hw)
    · have hw := hw.2 hc
      refine G_aload_n (pc := 15) C 1 dX12_readsClause_15 rfl rfl ?_
      obtain ⟨hk, hw⟩ := hw
      refine gf_RX12_83 (pc := 16) C dX12_readsClause_16 hk ?_
      refine G_bipush (pc := 19) C (v := 6) dX12_readsClause_19 (by decide) ?_
      refine G_icmp_ne (pc := 21) C 26 dX12_readsClause_21 (by decide) (fun hc => ?_) (fun hc => ?_)
      · have hw := hw.1 hc
        exact G_sub [1, 0] rfl (g_X12_readsClause_26 C  hw)
      · have hw := hw.2 hc
        exact G_sub [] rfl (g_X12_readsClause_24 C  hw)
/-! FirstPartsModel.readsAll(Z)Z -/
abbrev wp_X12_readsAll_104  (Q : Int32 → Hp → Prop) (v2 : Int32) (S : Hp) : Prop :=
  (v2 = 0 ∨ v2 = 1) ∧ Q v2 S
abbrev wp_X12_readsAll_77 (K34 : Int32 → Hp → Prop) (Q : Int32 → Hp → Prop) (v0 : Nat) (s0 : Int32) (S : Hp) : Prop :=
  ((s0 = 0 → K34 (s0) (S)) ∧ (¬ s0 = 0 → kd S v0 = 13 ∧ wp_X12_next (v0) S (fun S11 => kd S11 v0 = 13 ∧ wp_X12_readsClause (v0) S11 (fun e12 S13 => kd S13 v0 = 13 ∧ kd S13 v0 = 13 ∧ ∀ S14 : Hp, S14 = sI S13 200 v0 0 ((gI S13 200 v0 0) + (1 : Int32)) → K34 (e12) (S14)))))
abbrev wp_X12_readsAll_76 (K34 : Int32 → Hp → Prop) (Q : Int32 → Hp → Prop) (v0 : Nat) (S : Hp) : Prop :=
  wp_X12_readsAll_77 K34 Q (v0) ((0 : Int32)) (S)
abbrev wb_X12_readsAll_34  (K34 : Int32 → Hp → Prop) (Q : Int32 → Hp → Prop) (v0 : Nat) (v2 : Int32) (S : Hp) : Prop :=
  ((v2 = 0 → wp_X12_readsAll_104 Q (v2) (S)) ∧ (¬ v2 = 0 → kd S v0 = 13 ∧ kd S v0 = 13 ∧ (((gI S 196 v0 0) ≤ (gI S 197 v0 0) → wp_X12_readsAll_104 Q (v2) (S)) ∧ (¬ (gI S 196 v0 0) ≤ (gI S 197 v0 0) → kd S v0 = 13 ∧ (((24 : Int32) ≤ (gI S 200 v0 0) → wp_X12_readsAll_76 K34 Q (v0) (S)) ∧ (¬ (24 : Int32) ≤ (gI S 200 v0 0) → kd S v0 = 13 ∧ kd S v0 = 13 ∧ ∃ b15, (gR S 195 v0 0) = some b15 ∧ kd S b15 = 20 ∧ vp_in (gI S 197 v0 0) (ln S b15) ∧ (((gI S 0 b15 ((gI S 197 v0 0)).toNatClampNeg) ≠ (59 : Int32) → wp_X12_readsAll_76 K34 Q (v0) (S)) ∧ ((gI S 0 b15 ((gI S 197 v0 0)).toNatClampNeg) = (59 : Int32) → wp_X12_readsAll_77 K34 Q (v0) ((1 : Int32)) (S)))))))))
abbrev wp_X12_readsAll_34  (Q : Int32 → Hp → Prop) (v0 : Nat) (v2 : Int32) (S : Hp) : Prop :=
  Lp (X := Int32 × Hp) (fun K y => wb_X12_readsAll_34  (fun w0 w1 => K (w0, w1)) Q v0 y.1 y.2) (v2, S)
abbrev wp_X12_readsAll (a0 : Nat) (x1 : Int32) (S : Hp) (Q : Int32 → Hp → Prop) : Prop :=
  kd S a0 = 13 ∧ (x1 = 0 ∨ x1 = 1) ∧ ∀ S1 : Hp, S1 = sI S 201 a0 0 x1 → kd S1 a0 = 13 ∧ ∀ S2 : Hp, S2 = sI S1 198 a0 0 (0 : Int32) → kd S2 a0 = 13 ∧ ∀ S3 : Hp, S3 = sI S2 200 a0 0 (1 : Int32) → kd S3 a0 = 13 ∧ ∃ b4, (gR S3 193 a0 0) = some b4 ∧ kd S3 b4 = 20 ∧ vp_in (2 : Int32) (ln S3 b4) ∧ kd S3 a0 = 13 ∧ ∀ S5 : Hp, S5 = sI S3 199 a0 0 (gI S3 0 b4 ((2 : Int32)).toNatClampNeg) → kd S5 a0 = 13 ∧ wp_X12_next (a0) S5 (fun S7 => kd S7 a0 = 13 ∧ wp_X12_readsClause (a0) S7 (fun e8 S9 => wp_X12_readsAll_34 Q (a0) (e8) (S9)))
set_option maxHeartbeats 4000000 in
set_option maxRecDepth 100000 in
theorem g_X12_readsAll_104 (C : Cx p s m args meth c z cX12_readsAll 3 RX12 (some .boolean) "readsAll")  {Q : Int32 → Hp → Prop} {v2 : Int32} {S : Hp}   (hw : wp_X12_readsAll_104  Q v2 S) : Go p l e { frames := 6, cells := 0, slots := 0, locals := 138 } s m args below meth c z 3 (MQ below (Qx z (wI Q)) args s 0 0 (own z)) (0) (0) 104 [(2, .int (v2))] [] (S) := by
  refine G_iload_n (pc := 104) C 0 dX12_readsAll_104 rfl rfl ?_
  obtain ⟨hb, hw⟩ := hw
  exact G_zret (pc := 105) C rfl hb dX12_readsAll_105 ⟨_, rfl, hw⟩
set_option maxHeartbeats 4000000 in
set_option maxRecDepth 100000 in
theorem g_X12_readsAll_77 (C : Cx p s m args meth c z cX12_readsAll 3 RX12 (some .boolean) "readsAll") {K34 : Int32 → Hp → Prop} {Q : Int32 → Hp → Prop} {v0 : Nat} {s0 : Int32} {S : Hp}  (hK34 : ∀ (w2 : Int32) (S2 : Hp), K34 w2 S2 → Go p l e { frames := 6, cells := 0, slots := 0, locals := 138 } s m args below meth c z 3 (MQ below (Qx z (wI Q)) args s 0 0 (own z)) (0) (0) 34 [(0, .ref (v0)), (2, .int (w2))] [] (S2)) (hw : wp_X12_readsAll_77 K34 Q v0 s0 S) : Go p l e { frames := 6, cells := 0, slots := 0, locals := 138 } s m args below meth c z 3 (MQ below (Qx z (wI Q)) args s 0 0 (own z)) (0) (0) 77 [(0, .ref (v0))] [.int (s0)] (S) := by
  refine G_istore_n (pc := 77) C [(2, .int (s0)), (0, .ref (v0))] dX12_readsAll_77 rfl (by decide) rfl ?_
  refine G_iload_n (pc := 78) C 0 dX12_readsAll_78 rfl rfl ?_
  refine G_if_eq (pc := 79) C 34 dX12_readsAll_79 (by decide) (fun hc => ?_) (fun hc => ?_)
  · have hw := hw.1 hc
    exact G_sub [1, 0] rfl (hK34 _ _ hw)
  · have hw := hw.2 hc
    refine G_aload_n (pc := 82) C 1 dX12_readsAll_82 rfl rfl ?_
    obtain ⟨hk, hw⟩ := hw
    refine cl_RX12_76 (pc := 83) C (c_X12_next l z (v0) S _ hw) ⟨Nat.le_of_ble_eq_true rfl, Nat.le_of_ble_eq_true rfl⟩ hk dX12_readsAll_83 (Nat.le_of_ble_eq_true rfl) (fun v S' hp => ?_)
    clear hw
    obtain ⟨rfl, hw⟩ := hp
    generalize S' = S11 at hw ⊢
    refine G_aload_n (pc := 86) C 1 dX12_readsAll_86 rfl rfl ?_
    obtain ⟨hk, hw⟩ := hw
    refine cl_RX12_101 (pc := 87) C (c_X12_readsClause l z (v0) S11 _ hw) ⟨Nat.le_of_ble_eq_true rfl, Nat.le_of_ble_eq_true rfl⟩ hk dX12_readsAll_87 (Nat.le_of_ble_eq_true rfl) (fun v S' hp => ?_)
    clear hw
    obtain ⟨e12, rfl, hw⟩ := hp
    generalize S' = S13 at hw ⊢
    refine G_istore_n (pc := 90) C [(2, .int (e12)), (0, .ref (v0))] dX12_readsAll_90 rfl (by decide) rfl ?_
    refine G_aload_n (pc := 91) C 1 dX12_readsAll_91 rfl rfl ?_
    refine G_dup (pc := 92) C dX12_readsAll_92 rfl ?_
    obtain ⟨hk, hw⟩ := hw
    refine gf_RX12_98 (pc := 93) C dX12_readsAll_93 hk ?_
    refine G_iconst (pc := 96) C (v := 1) dX12_readsAll_96 (by decide) ?_
    refine G_iadd (pc := 97) C dX12_readsAll_97 ?_
    obtain ⟨hk, hw⟩ := hw
    refine pf_RX12_98 (pc := 98) C dX12_readsAll_98 hk ?_
    obtain ⟨S14, hS14⟩ : ∃ y : Hp, y = sI S13 200 v0 0 ((gI S13 200 v0 0) + (1 : Int32)) := ⟨_, rfl⟩
    have hw := hw S14 hS14
    rw [← hS14]
    clear hS14
    refine G_goto (pc := 101) C 34 dX12_readsAll_101 (by decide) ?_
    exact G_sub [1, 0] rfl (hK34 _ _ hw)
set_option maxHeartbeats 4000000 in
set_option maxRecDepth 100000 in
theorem g_X12_readsAll_76 (C : Cx p s m args meth c z cX12_readsAll 3 RX12 (some .boolean) "readsAll") {K34 : Int32 → Hp → Prop} {Q : Int32 → Hp → Prop} {v0 : Nat} {S : Hp}  (hK34 : ∀ (w2 : Int32) (S2 : Hp), K34 w2 S2 → Go p l e { frames := 6, cells := 0, slots := 0, locals := 138 } s m args below meth c z 3 (MQ below (Qx z (wI Q)) args s 0 0 (own z)) (0) (0) 34 [(0, .ref (v0)), (2, .int (w2))] [] (S2)) (hw : wp_X12_readsAll_76 K34 Q v0 S) : Go p l e { frames := 6, cells := 0, slots := 0, locals := 138 } s m args below meth c z 3 (MQ below (Qx z (wI Q)) args s 0 0 (own z)) (0) (0) 76 [(0, .ref (v0))] [] (S) := by
  refine G_iconst (pc := 76) C (v := 0) dX12_readsAll_76 (by decide) ?_
  exact G_sub [0] rfl (g_X12_readsAll_77 C hK34 hw)
set_option maxHeartbeats 4000000 in
set_option maxRecDepth 100000 in
theorem gb_X12_readsAll_34 (C : Cx p s m args meth c z cX12_readsAll 3 RX12 (some .boolean) "readsAll") {K34 : Int32 → Hp → Prop} {Q : Int32 → Hp → Prop} {v0 : Nat} {v2 : Int32} {S : Hp}  (hK34 : ∀ (w2 : Int32) (S2 : Hp), K34 w2 S2 → Go p l e { frames := 6, cells := 0, slots := 0, locals := 138 } s m args below meth c z 3 (MQ below (Qx z (wI Q)) args s 0 0 (own z)) (0) (0) 34 [(0, .ref (v0)), (2, .int (w2))] [] (S2)) (hw : wb_X12_readsAll_34  K34 Q v0 v2 S) : Go p l e { frames := 6, cells := 0, slots := 0, locals := 138 } s m args below meth c z 3 (MQ below (Qx z (wI Q)) args s 0 0 (own z)) (0) (0) 34 [(0, .ref (v0)), (2, .int (v2))] [] (S) := by
  refine G_iload_n (pc := 34) C 1 dX12_readsAll_34 rfl rfl ?_
  refine G_if_eq (pc := 35) C 104 dX12_readsAll_35 (by decide) (fun hc => ?_) (fun hc => ?_)
  · have hw := hw.1 hc
    exact G_sub [1] rfl (g_X12_readsAll_104 C  hw)
  · have hw := hw.2 hc
    refine G_aload_n (pc := 38) C 0 dX12_readsAll_38 rfl rfl ?_
    obtain ⟨hk, hw⟩ := hw
    refine gf_RX12_66 (pc := 39) C dX12_readsAll_39 hk ?_
    refine G_aload_n (pc := 42) C 0 dX12_readsAll_42 rfl rfl ?_
    obtain ⟨hk, hw⟩ := hw
    refine gf_RX12_51 (pc := 43) C dX12_readsAll_43 hk ?_
    refine G_icmp_ge (pc := 46) C 104 dX12_readsAll_46 (by decide) (fun hc => ?_) (fun hc => ?_)
    · have hw := hw.1 hc
      exact G_sub [1] rfl (g_X12_readsAll_104 C  hw)
    · have hw := hw.2 hc
      refine G_aload_n (pc := 49) C 0 dX12_readsAll_49 rfl rfl ?_
      obtain ⟨hk, hw⟩ := hw
      refine gf_RX12_98 (pc := 50) C dX12_readsAll_50 hk ?_
      refine G_bipush (pc := 53) C (v := 24) dX12_readsAll_53 (by decide) ?_
      refine G_icmp_ge (pc := 55) C 76 dX12_readsAll_55 (by decide) (fun hc => ?_) (fun hc => ?_)
      · have hw := hw.1 hc
        exact G_sub [0] rfl (g_X12_readsAll_76 C hK34 hw)
      · have hw := hw.2 hc
        refine G_aload_n (pc := 58) C 0 dX12_readsAll_58 rfl rfl ?_
        obtain ⟨hk, hw⟩ := hw
        refine gf_RX12_13 (pc := 59) C dX12_readsAll_59 hk ?_
        refine G_aload_n (pc := 62) C 0 dX12_readsAll_62 rfl rfl ?_
        obtain ⟨hk, hw⟩ := hw
        refine gf_RX12_66 (pc := 63) C dX12_readsAll_63 hk ?_
        obtain ⟨b15, hq, hw⟩ := hw
        rw [hq]
        obtain ⟨hk, hi, hw⟩ := hw
        refine G_iald (pc := 66) C hk hi dX12_readsAll_66 ?_
        refine G_bipush (pc := 67) C (v := 59) dX12_readsAll_67 (by decide) ?_
        refine G_icmp_ne (pc := 69) C 76 dX12_readsAll_69 (by decide) (fun hc => ?_) (fun hc => ?_)
        · have hw := hw.1 hc
          exact G_sub [0] rfl (g_X12_readsAll_76 C hK34 hw)
        · have hw := hw.2 hc
          refine G_iconst (pc := 72) C (v := 1) dX12_readsAll_72 (by decide) ?_
          refine G_goto (pc := 73) C 77 dX12_readsAll_73 (by decide) ?_
          exact G_sub [0] rfl (g_X12_readsAll_77 C hK34 hw)
set_option maxHeartbeats 4000000 in
set_option maxRecDepth 100000 in
theorem g_X12_readsAll_34 (C : Cx p s m args meth c z cX12_readsAll 3 RX12 (some .boolean) "readsAll")  {Q : Int32 → Hp → Prop} {v0 : Nat} {v2 : Int32} {S : Hp}   (hw : wp_X12_readsAll_34  Q v0 v2 S) : Go p l e { frames := 6, cells := 0, slots := 0, locals := 138 } s m args below meth c z 3 (MQ below (Qx z (wI Q)) args s 0 0 (own z)) (0) (0) 34 [(0, .ref (v0)), (2, .int (v2))] [] (S) :=
  Lp_go (G := fun y : Int32 × Hp => Go p l e { frames := 6, cells := 0, slots := 0, locals := 138 } s m args below meth c z 3 (MQ below (Qx z (wI Q)) args s 0 0 (own z)) (0) (0) 34 [(0, .ref (v0)), (2, .int (y.1))] [] (y.2)) (fun K y hK hB => gb_X12_readsAll_34 C  (fun w0 w1 h => hK (w0, w1) h) hB) hw
set_option maxHeartbeats 4000000 in
set_option maxRecDepth 100000 in
theorem c_X12_readsAll (l : Launch) (z : Zt) (a0 : Nat) (x1 : Int32) (S : Hp) (Q : Int32 → Hp → Prop) (hw : wp_X12_readsAll a0 x1 S Q) : Ct l z yX12_readsAll cX12_readsAll 3 (some .boolean) 6 138 0 0 [.ref (a0), .int (x1)] S (wI Q) := by
  refine Ct_of (by decide) (Nat.le_of_ble_eq_true rfl) ?_
  intro p e s m args below meth c C
  have C : Cx p s m args meth c z cX12_readsAll 3 RX12 (some .boolean) "readsAll" := C
  refine G_sub (lv' := [(0, .ref (a0)), (1, .int (x1))]) [0, 1] rfl ?_
  refine G_aload_n (pc := 0) C 0 dX12_readsAll_0 rfl rfl ?_
  refine G_iload_n (pc := 1) C 1 dX12_readsAll_1 rfl rfl ?_
  obtain ⟨hk, hw⟩ := hw
  obtain ⟨hb, hw⟩ := hw
  refine pf_RX12_86 (pc := 2) C dX12_readsAll_2 hk hb ?_
  obtain ⟨S1, hS1⟩ : ∃ y : Hp, y = sI S 201 a0 0 x1 := ⟨_, rfl⟩
  have hw := hw S1 hS1
  rw [← hS1]
  clear hS1
  refine G_aload_n (pc := 5) C 0 dX12_readsAll_5 rfl rfl ?_
  refine G_iconst (pc := 6) C (v := 0) dX12_readsAll_6 (by decide) ?_
  obtain ⟨hk, hw⟩ := hw
  refine pf_RX12_63 (pc := 7) C dX12_readsAll_7 hk ?_
  obtain ⟨S2, hS2⟩ : ∃ y : Hp, y = sI S1 198 a0 0 (0 : Int32) := ⟨_, rfl⟩
  have hw := hw S2 hS2
  rw [← hS2]
  clear hS2
  refine G_aload_n (pc := 10) C 0 dX12_readsAll_10 rfl rfl ?_
  refine G_iconst (pc := 11) C (v := 1) dX12_readsAll_11 (by decide) ?_
  obtain ⟨hk, hw⟩ := hw
  refine pf_RX12_98 (pc := 12) C dX12_readsAll_12 hk ?_
  obtain ⟨S3, hS3⟩ : ∃ y : Hp, y = sI S2 200 a0 0 (1 : Int32) := ⟨_, rfl⟩
  have hw := hw S3 hS3
  rw [← hS3]
  clear hS3
  refine G_aload_n (pc := 15) C 0 dX12_readsAll_15 rfl rfl ?_
  refine G_aload_n (pc := 16) C 0 dX12_readsAll_16 rfl rfl ?_
  obtain ⟨hk, hw⟩ := hw
  refine gf_RX12_7 (pc := 17) C dX12_readsAll_17 hk ?_
  refine G_iconst (pc := 20) C (v := 2) dX12_readsAll_20 (by decide) ?_
  obtain ⟨b4, hq, hw⟩ := hw
  rw [hq]
  obtain ⟨hk, hi, hw⟩ := hw
  refine G_iald (pc := 21) C hk hi dX12_readsAll_21 ?_
  obtain ⟨hk, hw⟩ := hw
  refine pf_RX12_83 (pc := 22) C dX12_readsAll_22 hk ?_
  obtain ⟨S5, hS5⟩ : ∃ y : Hp, y = sI S3 199 a0 0 (gI S3 0 b4 ((2 : Int32)).toNatClampNeg) := ⟨_, rfl⟩
  have hw := hw S5 hS5
  rw [← hS5]
  clear hS5
  refine G_aload_n (pc := 25) C 0 dX12_readsAll_25 rfl rfl ?_
  obtain ⟨hk, hw⟩ := hw
  refine cl_RX12_76 (pc := 26) C (c_X12_next l z (a0) S5 _ hw) ⟨Nat.le_of_ble_eq_true rfl, Nat.le_of_ble_eq_true rfl⟩ hk dX12_readsAll_26 (Nat.le_of_ble_eq_true rfl) (fun v S' hp => ?_)
  clear hw
  obtain ⟨rfl, hw⟩ := hp
  generalize S' = S7 at hw ⊢
  refine G_aload_n (pc := 29) C 0 dX12_readsAll_29 rfl rfl ?_
  obtain ⟨hk, hw⟩ := hw
  refine cl_RX12_101 (pc := 30) C (c_X12_readsClause l z (a0) S7 _ hw) ⟨Nat.le_of_ble_eq_true rfl, Nat.le_of_ble_eq_true rfl⟩ hk dX12_readsAll_30 (Nat.le_of_ble_eq_true rfl) (fun v S' hp => ?_)
  clear hw
  obtain ⟨e8, rfl, hw⟩ := hp
  generalize S' = S9 at hw ⊢
  refine G_istore_n (pc := 33) C [(2, .int (e8)), (0, .ref (a0)), (1, .int (x1))] dX12_readsAll_33 rfl (by decide) rfl ?_
  exact G_sub [1, 0] rfl (g_X12_readsAll_34 C  hw)
/-! FirstPartsModel.fault()I -/
abbrev wp_X12_fault_16  (Q : Int32 → Hp → Prop) (s0 : Int32) (S : Hp) : Prop :=
  Q s0 S
abbrev wp_X12_fault (a0 : Nat) (S : Hp) (Q : Int32 → Hp → Prop) : Prop :=
  kd S a0 = 13 ∧ wp_X12_readsAll (a0) ((0 : Int32)) S (fun e1 S2 => ((e1 = 0 → kd S2 a0 = 13 ∧ wp_X12_fault_16 Q ((gI S2 197 a0 0)) (S2)) ∧ (¬ e1 = 0 → wp_X12_fault_16 Q ((-1 : Int32)) (S2))))
set_option maxHeartbeats 4000000 in
set_option maxRecDepth 100000 in
theorem g_X12_fault_16 (C : Cx p s m args meth c z cX12_fault 1 RX12 (some .int) "fault")  {Q : Int32 → Hp → Prop} {s0 : Int32} {S : Hp}   (hw : wp_X12_fault_16  Q s0 S) : Go p l e { frames := 7, cells := 0, slots := 0, locals := 160 } s m args below meth c z 1 (MQ below (Qx z (wI Q)) args s 0 0 (own z)) (0) (0) 16 [] [.int (s0)] (S) := by
  exact G_iret (pc := 16) C rfl dX12_fault_16 ⟨_, rfl, hw⟩
set_option maxHeartbeats 4000000 in
set_option maxRecDepth 100000 in
theorem c_X12_fault (l : Launch) (z : Zt) (a0 : Nat) (S : Hp) (Q : Int32 → Hp → Prop) (hw : wp_X12_fault a0 S Q) : Ct l z yX12_fault cX12_fault 1 (some .int) 7 160 0 0 [.ref (a0)] S (wI Q) := by
  refine Ct_of (by decide) (Nat.le_of_ble_eq_true rfl) ?_
  intro p e s m args below meth c C
  have C : Cx p s m args meth c z cX12_fault 1 RX12 (some .int) "fault" := C
  refine G_sub (lv' := [(0, .ref (a0))]) [0] rfl ?_
  refine G_aload_n (pc := 0) C 0 dX12_fault_0 rfl rfl ?_
  refine G_iconst (pc := 1) C (v := 0) dX12_fault_1 (by decide) ?_
  obtain ⟨hk, hw⟩ := hw
  refine cl_RX12_104 (pc := 2) C (c_X12_readsAll l z (a0) ((0 : Int32)) S _ hw) ⟨Nat.le_of_ble_eq_true rfl, Nat.le_of_ble_eq_true rfl⟩ hk dX12_fault_2 (Nat.le_of_ble_eq_true rfl) (fun v S' hp => ?_)
  clear hw
  obtain ⟨e1, rfl, hw⟩ := hp
  generalize S' = S2 at hw ⊢
  refine G_if_eq (pc := 5) C 12 dX12_fault_5 (by decide) (fun hc => ?_) (fun hc => ?_)
  · have hw := hw.1 hc
    refine G_aload_n (pc := 12) C 0 dX12_fault_12 rfl rfl ?_
    obtain ⟨hk, hw⟩ := hw
    refine gf_RX12_66 (pc := 13) C dX12_fault_13 hk ?_
    exact G_sub [] rfl (g_X12_fault_16 C  hw)
  · have hw := hw.2 hc
    refine G_iconst (pc := 8) C (v := -1) dX12_fault_8 (by decide) ?_
    refine G_goto (pc := 9) C 16 dX12_fault_9 (by decide) ?_
    exact G_sub [] rfl (g_X12_fault_16 C  hw)
/-! FirstPartsModel.tell()I -/
abbrev wp_X12_tell (a0 : Nat) (S : Hp) (Q : Int32 → Hp → Prop) : Prop :=
  kd S a0 = 13 ∧ wp_X12_readsAll (a0) ((0 : Int32)) S (fun e1 S2 => ((e1 ≠ 0 → kd S2 a0 = 13 ∧ wp_X12_readsAll (a0) ((1 : Int32)) S2 (fun e3 S4 => kd S4 a0 = 13 ∧ ∀ S5 : Hp, S5 = sI S4 196 a0 0 (0 : Int32) → kd S5 a0 = 13 ∧ ∀ S6 : Hp, S6 = sI S5 194 a0 0 (0 : Int32) → kd S6 a0 = 13 ∧ Q (gI S6 200 a0 0) S6)) ∧ (e1 = 0 → Q (-4 : Int32) S2)))
set_option maxHeartbeats 4000000 in
set_option maxRecDepth 100000 in
theorem c_X12_tell (l : Launch) (z : Zt) (a0 : Nat) (S : Hp) (Q : Int32 → Hp → Prop) (hw : wp_X12_tell a0 S Q) : Ct l z yX12_tell cX12_tell 1 (some .int) 7 160 0 0 [.ref (a0)] S (wI Q) := by
  refine Ct_of (by decide) (Nat.le_of_ble_eq_true rfl) ?_
  intro p e s m args below meth c C
  have C : Cx p s m args meth c z cX12_tell 1 RX12 (some .int) "tell" := C
  refine G_sub (lv' := [(0, .ref (a0))]) [0] rfl ?_
  refine G_aload_n (pc := 0) C 0 dX12_tell_0 rfl rfl ?_
  refine G_iconst (pc := 1) C (v := 0) dX12_tell_1 (by decide) ?_
  obtain ⟨hk, hw⟩ := hw
  refine cl_RX12_104 (pc := 2) C (c_X12_readsAll l z (a0) ((0 : Int32)) S _ hw) ⟨Nat.le_of_ble_eq_true rfl, Nat.le_of_ble_eq_true rfl⟩ hk dX12_tell_2 (Nat.le_of_ble_eq_true rfl) (fun v S' hp => ?_)
  clear hw
  obtain ⟨e1, rfl, hw⟩ := hp
  generalize S' = S2 at hw ⊢
  refine G_if_ne (pc := 5) C 11 dX12_tell_5 (by decide) (fun hc => ?_) (fun hc => ?_)
  · have hw := hw.1 hc
    refine G_aload_n (pc := 11) C 0 dX12_tell_11 rfl rfl ?_
    refine G_iconst (pc := 12) C (v := 1) dX12_tell_12 (by decide) ?_
    obtain ⟨hk, hw⟩ := hw
    refine cl_RX12_104 (pc := 13) C (c_X12_readsAll l z (a0) ((1 : Int32)) S2 _ hw) ⟨Nat.le_of_ble_eq_true rfl, Nat.le_of_ble_eq_true rfl⟩ hk dX12_tell_13 (Nat.le_of_ble_eq_true rfl) (fun v S' hp => ?_)
    clear hw
    obtain ⟨e3, rfl, hw⟩ := hp
    generalize S' = S4 at hw ⊢
    refine G_pop (pc := 16) C dX12_tell_16 rfl ?_
    refine G_aload_n (pc := 17) C 0 dX12_tell_17 rfl rfl ?_
    refine G_iconst (pc := 18) C (v := 0) dX12_tell_18 (by decide) ?_
    obtain ⟨hk, hw⟩ := hw
    refine pf_RX12_51 (pc := 19) C dX12_tell_19 hk ?_
    obtain ⟨S5, hS5⟩ : ∃ y : Hp, y = sI S4 196 a0 0 (0 : Int32) := ⟨_, rfl⟩
    have hw := hw S5 hS5
    rw [← hS5]
    clear hS5
    refine G_aload_n (pc := 22) C 0 dX12_tell_22 rfl rfl ?_
    refine G_iconst (pc := 23) C (v := 0) dX12_tell_23 (by decide) ?_
    obtain ⟨hk, hw⟩ := hw
    refine pf_RX12_108 (pc := 24) C dX12_tell_24 hk ?_
    obtain ⟨S6, hS6⟩ : ∃ y : Hp, y = sI S5 194 a0 0 (0 : Int32) := ⟨_, rfl⟩
    have hw := hw S6 hS6
    rw [← hS6]
    clear hS6
    refine G_aload_n (pc := 27) C 0 dX12_tell_27 rfl rfl ?_
    obtain ⟨hk, hw⟩ := hw
    refine gf_RX12_98 (pc := 28) C dX12_tell_28 hk ?_
    exact G_iret (pc := 31) C rfl dX12_tell_31 ⟨_, rfl, hw⟩
  · have hw := hw.2 hc
    refine G_bipush (pc := 8) C (v := -4) dX12_tell_8 (by decide) ?_
    exact G_iret (pc := 10) C rfl dX12_tell_10 ⟨_, rfl, hw⟩
/-! FirstPartsModel.part(II)I -/
abbrev wp_X12_part_52  (Q : Int32 → Prop) (s0 : Int32) (S : Hp) : Prop :=
  Q s0
abbrev wp_X12_part (a0 : Nat) (x1 : Int32) (x2 : Int32) (S : Hp) (Q : Int32 → Prop) : Prop :=
  kd S a0 = 13 ∧ wp_X12_isPart (a0) (x1) S (fun e1 => ((e1 ≠ 0 → wp_X12_in ((x2).toInt64) ((0 : Int64)) ((2 : Int64)) S (fun e3 => ((e3 = 0 → ((x2 ≠ (3 : Int32) → wp_X12_part_52 Q ((-3 : Int32)) (S)) ∧ (x2 = (3 : Int32) → kd S a0 = 13 ∧ wp_X12_stripesOf (a0) (x1) S (fun e5 => wp_X12_part_52 Q (e5) (S))))) ∧ (¬ e3 = 0 → kd S a0 = 13 ∧ ∃ b9, (gR S 193 a0 0) = some b9 ∧ wp_X12_at (x1) S (fun e7 => kd S b9 = 20 ∧ vp_in (e7 + x2) (ln S b9) ∧ wp_X12_part_52 Q ((gI S 0 b9 ((e7 + x2)).toNatClampNeg)) (S)))))) ∧ (e1 = 0 → Q (-2 : Int32))))
set_option maxHeartbeats 4000000 in
set_option maxRecDepth 100000 in
theorem g_X12_part_52 (C : Cx p s m args meth c z cX12_part 3 RX12 (some .int) "part")  {Q : Int32 → Prop} {s0 : Int32} {S : Hp}   (hw : wp_X12_part_52  Q s0 S) : Go p l e { frames := 2, cells := 0, slots := 0, locals := 46 } s m args below meth c z 3 (MQ below (Qx z (pI S Q)) args s 0 0 (own z)) (0) (0) 52 [] [.int (s0)] (S) := by
  exact G_iret (pc := 52) C rfl dX12_part_52 ⟨rfl, _, rfl, hw⟩
set_option maxHeartbeats 4000000 in
set_option maxRecDepth 100000 in
theorem c_X12_part (l : Launch) (z : Zt) (a0 : Nat) (x1 : Int32) (x2 : Int32) (S : Hp) (Q : Int32 → Prop) (hw : wp_X12_part a0 x1 x2 S Q) : Ct l z yX12_part cX12_part 3 (some .int) 2 46 0 0 [.ref (a0), .int (x1), .int (x2)] S (pI S Q) := by
  refine Ct_of (by decide) (Nat.le_of_ble_eq_true rfl) ?_
  intro p e s m args below meth c C
  have C : Cx p s m args meth c z cX12_part 3 RX12 (some .int) "part" := C
  refine G_sub (lv' := [(0, .ref (a0)), (1, .int (x1)), (2, .int (x2))]) [0, 1, 2] rfl ?_
  refine G_aload_n (pc := 0) C 0 dX12_part_0 rfl rfl ?_
  refine G_iload_n (pc := 1) C 1 dX12_part_1 rfl rfl ?_
  obtain ⟨hk, hw⟩ := hw
  refine cl_RX12_111 (pc := 2) C (c_X12_isPart l z (a0) (x1) S _ hw) ⟨Nat.le_of_ble_eq_true rfl, Nat.le_of_ble_eq_true rfl⟩ hk dX12_part_2 (Nat.le_of_ble_eq_true rfl) (fun v S' hp => ?_)
  clear hw
  obtain ⟨hS, e1, rfl, hw⟩ := hp
  subst S'
  refine G_if_ne (pc := 5) C 11 dX12_part_5 (by decide) (fun hc => ?_) (fun hc => ?_)
  · have hw := hw.1 hc
    refine G_iload_n (pc := 11) C 2 dX12_part_11 rfl rfl ?_
    refine G_i2l (pc := 12) C dX12_part_12 ?_
    refine G_lconst (pc := 13) C (v := 0) dX12_part_13 (by decide) ?_
    refine G_ldc2 (pc := 14) C kl_RX12_114 dX12_part_14 ?_
    refine cl_RX12_31 (pc := 17) C (c_X12_in l z ((x2).toInt64) ((0 : Int64)) ((2 : Int64)) S _ hw) ⟨Nat.le_of_ble_eq_true rfl, Nat.le_of_ble_eq_true rfl⟩ dX12_part_17 (Nat.le_of_ble_eq_true rfl) (fun v S' hp => ?_)
    clear hw
    obtain ⟨hS, e3, rfl, hw⟩ := hp
    subst S'
    refine G_if_eq (pc := 20) C 37 dX12_part_20 (by decide) (fun hc => ?_) (fun hc => ?_)
    · have hw := hw.1 hc
      refine G_iload_n (pc := 37) C 2 dX12_part_37 rfl rfl ?_
      refine G_iconst (pc := 38) C (v := 3) dX12_part_38 (by decide) ?_
      refine G_icmp_ne (pc := 39) C 50 dX12_part_39 (by decide) (fun hc => ?_) (fun hc => ?_)
      · have hw := hw.1 hc
        refine G_bipush (pc := 50) C (v := -3) dX12_part_50 (by decide) ?_
        exact G_sub [] rfl (g_X12_part_52 C  hw)
      · have hw := hw.2 hc
        refine G_aload_n (pc := 42) C 0 dX12_part_42 rfl rfl ?_
        refine G_iload_n (pc := 43) C 1 dX12_part_43 rfl rfl ?_
        obtain ⟨hk, hw⟩ := hw
        refine cl_RX12_43 (pc := 44) C (c_X12_stripesOf l z (a0) (x1) S _ hw) ⟨Nat.le_of_ble_eq_true rfl, Nat.le_of_ble_eq_true rfl⟩ hk dX12_part_44 (Nat.le_of_ble_eq_true rfl) (fun v S' hp => ?_)
        clear hw
        obtain ⟨hS, e5, rfl, hw⟩ := hp
        subst S'
        refine G_goto (pc := 47) C 52 dX12_part_47 (by decide) ?_
        exact G_sub [] rfl (g_X12_part_52 C  hw)
    · have hw := hw.2 hc
      refine G_aload_n (pc := 23) C 0 dX12_part_23 rfl rfl ?_
      obtain ⟨hk, hw⟩ := hw
      refine gf_RX12_7 (pc := 24) C dX12_part_24 hk ?_
      refine G_iload_n (pc := 27) C 1 dX12_part_27 rfl rfl ?_
      obtain ⟨b9, hq, hw⟩ := hw
      rw [hq]
      refine cl_RX12_35 (pc := 28) C (c_X12_at l z (x1) S _ hw) ⟨Nat.le_of_ble_eq_true rfl, Nat.le_of_ble_eq_true rfl⟩ dX12_part_28 (Nat.le_of_ble_eq_true rfl) (fun v S' hp => ?_)
      clear hw
      obtain ⟨hS, e7, rfl, hw⟩ := hp
      subst S'
      refine G_iload_n (pc := 31) C 2 dX12_part_31 rfl rfl ?_
      refine G_iadd (pc := 32) C dX12_part_32 ?_
      obtain ⟨hk, hi, hw⟩ := hw
      refine G_iald (pc := 33) C hk hi dX12_part_33 ?_
      refine G_goto (pc := 34) C 52 dX12_part_34 (by decide) ?_
      exact G_sub [] rfl (g_X12_part_52 C  hw)
  · have hw := hw.2 hc
    refine G_bipush (pc := 8) C (v := -2) dX12_part_8 (by decide) ?_
    exact G_iret (pc := 10) C rfl dX12_part_10 ⟨rfl, _, rfl, hw⟩
/-! FirstPartsModel.letter(II)I -/
abbrev wp_X12_letter_49  (Q : Int32 → Prop) (s0 : Int32) (S : Hp) : Prop :=
  Q s0
abbrev wp_X12_letter_47  (Q : Int32 → Prop)  (S : Hp) : Prop :=
  wp_X12_letter_49 Q ((-2 : Int32)) (S)
abbrev wp_X12_letter (a0 : Nat) (x1 : Int32) (x2 : Int32) (S : Hp) (Q : Int32 → Prop) : Prop :=
  kd S a0 = 13 ∧ wp_X12_isPart (a0) (x1) S (fun e1 => ((e1 = 0 → wp_X12_letter_47 Q (S)) ∧ (¬ e1 = 0 → kd S a0 = 13 ∧ ∃ b5, (gR S 193 a0 0) = some b5 ∧ wp_X12_at (x1) S (fun e3 => kd S b5 = 20 ∧ vp_in (e3 + (0 : Int32)) (ln S b5) ∧ wp_X12_in ((x2).toInt64) ((0 : Int64)) ((((gI S 0 b5 ((e3 + (0 : Int32))).toNatClampNeg) - (1 : Int32))).toInt64) S (fun e6 => ((e6 = 0 → wp_X12_letter_47 Q (S)) ∧ (¬ e6 = 0 → kd S a0 = 13 ∧ ∃ b10, (gR S 193 a0 0) = some b10 ∧ wp_X12_at (x1) S (fun e8 => kd S b10 = 20 ∧ vp_in ((e8 + (3 : Int32)) + x2) (ln S b10) ∧ wp_X12_letter_49 Q ((gI S 0 b10 (((e8 + (3 : Int32)) + x2)).toNatClampNeg)) (S)))))))))
set_option maxHeartbeats 4000000 in
set_option maxRecDepth 100000 in
theorem g_X12_letter_49 (C : Cx p s m args meth c z cX12_letter 3 RX12 (some .int) "letter")  {Q : Int32 → Prop} {s0 : Int32} {S : Hp}   (hw : wp_X12_letter_49  Q s0 S) : Go p l e { frames := 2, cells := 0, slots := 0, locals := 46 } s m args below meth c z 3 (MQ below (Qx z (pI S Q)) args s 0 0 (own z)) (0) (0) 49 [] [.int (s0)] (S) := by
  exact G_iret (pc := 49) C rfl dX12_letter_49 ⟨rfl, _, rfl, hw⟩
set_option maxHeartbeats 4000000 in
set_option maxRecDepth 100000 in
theorem g_X12_letter_47 (C : Cx p s m args meth c z cX12_letter 3 RX12 (some .int) "letter")  {Q : Int32 → Prop}  {S : Hp}   (hw : wp_X12_letter_47  Q  S) : Go p l e { frames := 2, cells := 0, slots := 0, locals := 46 } s m args below meth c z 3 (MQ below (Qx z (pI S Q)) args s 0 0 (own z)) (0) (0) 47 [] [] (S) := by
  refine G_bipush (pc := 47) C (v := -2) dX12_letter_47 (by decide) ?_
  exact G_sub [] rfl (g_X12_letter_49 C  hw)
set_option maxHeartbeats 4000000 in
set_option maxRecDepth 100000 in
theorem c_X12_letter (l : Launch) (z : Zt) (a0 : Nat) (x1 : Int32) (x2 : Int32) (S : Hp) (Q : Int32 → Prop) (hw : wp_X12_letter a0 x1 x2 S Q) : Ct l z yX12_letter cX12_letter 3 (some .int) 2 46 0 0 [.ref (a0), .int (x1), .int (x2)] S (pI S Q) := by
  refine Ct_of (by decide) (Nat.le_of_ble_eq_true rfl) ?_
  intro p e s m args below meth c C
  have C : Cx p s m args meth c z cX12_letter 3 RX12 (some .int) "letter" := C
  refine G_sub (lv' := [(0, .ref (a0)), (1, .int (x1)), (2, .int (x2))]) [0, 1, 2] rfl ?_
  refine G_aload_n (pc := 0) C 0 dX12_letter_0 rfl rfl ?_
  refine G_iload_n (pc := 1) C 1 dX12_letter_1 rfl rfl ?_
  obtain ⟨hk, hw⟩ := hw
  refine cl_RX12_111 (pc := 2) C (c_X12_isPart l z (a0) (x1) S _ hw) ⟨Nat.le_of_ble_eq_true rfl, Nat.le_of_ble_eq_true rfl⟩ hk dX12_letter_2 (Nat.le_of_ble_eq_true rfl) (fun v S' hp => ?_)
  clear hw
  obtain ⟨hS, e1, rfl, hw⟩ := hp
  subst S'
  refine G_if_eq (pc := 5) C 47 dX12_letter_5 (by decide) (fun hc => ?_) (fun hc => ?_)
  · have hw := hw.1 hc
    exact G_sub [] rfl (g_X12_letter_47 C  hw)
  · have hw := hw.2 hc
    refine G_iload_n (pc := 8) C 2 dX12_letter_8 rfl rfl ?_
    refine G_i2l (pc := 9) C dX12_letter_9 ?_
    refine G_lconst (pc := 10) C (v := 0) dX12_letter_10 (by decide) ?_
    refine G_aload_n (pc := 11) C 0 dX12_letter_11 rfl rfl ?_
    obtain ⟨hk, hw⟩ := hw
    refine gf_RX12_7 (pc := 12) C dX12_letter_12 hk ?_
    refine G_iload_n (pc := 15) C 1 dX12_letter_15 rfl rfl ?_
    obtain ⟨b5, hq, hw⟩ := hw
    rw [hq]
    refine cl_RX12_35 (pc := 16) C (c_X12_at l z (x1) S _ hw) ⟨Nat.le_of_ble_eq_true rfl, Nat.le_of_ble_eq_true rfl⟩ dX12_letter_16 (Nat.le_of_ble_eq_true rfl) (fun v S' hp => ?_)
    clear hw
    obtain ⟨hS, e3, rfl, hw⟩ := hp
    subst S'
    refine G_iconst (pc := 19) C (v := 0) dX12_letter_19 (by decide) ?_
    refine G_iadd (pc := 20) C dX12_letter_20 ?_
    obtain ⟨hk, hi, hw⟩ := hw
    refine G_iald (pc := 21) C hk hi dX12_letter_21 ?_
    refine G_iconst (pc := 22) C (v := 1) dX12_letter_22 (by decide) ?_
    refine G_isub (pc := 23) C dX12_letter_23 ?_
    refine G_i2l (pc := 24) C dX12_letter_24 ?_
    refine cl_RX12_31 (pc := 25) C (c_X12_in l z ((x2).toInt64) ((0 : Int64)) ((((gI S 0 b5 ((e3 + (0 : Int32))).toNatClampNeg) - (1 : Int32))).toInt64) S _ hw) ⟨Nat.le_of_ble_eq_true rfl, Nat.le_of_ble_eq_true rfl⟩ dX12_letter_25 (Nat.le_of_ble_eq_true rfl) (fun v S' hp => ?_)
    clear hw
    obtain ⟨hS, e6, rfl, hw⟩ := hp
    subst S'
    refine G_if_eq (pc := 28) C 47 dX12_letter_28 (by decide) (fun hc => ?_) (fun hc => ?_)
    · have hw := hw.1 hc
      exact G_sub [] rfl (g_X12_letter_47 C  hw)
    · have hw := hw.2 hc
      refine G_aload_n (pc := 31) C 0 dX12_letter_31 rfl rfl ?_
      obtain ⟨hk, hw⟩ := hw
      refine gf_RX12_7 (pc := 32) C dX12_letter_32 hk ?_
      refine G_iload_n (pc := 35) C 1 dX12_letter_35 rfl rfl ?_
      obtain ⟨b10, hq, hw⟩ := hw
      rw [hq]
      refine cl_RX12_35 (pc := 36) C (c_X12_at l z (x1) S _ hw) ⟨Nat.le_of_ble_eq_true rfl, Nat.le_of_ble_eq_true rfl⟩ dX12_letter_36 (Nat.le_of_ble_eq_true rfl) (fun v S' hp => ?_)
      clear hw
      obtain ⟨hS, e8, rfl, hw⟩ := hp
      subst S'
      refine G_iconst (pc := 39) C (v := 3) dX12_letter_39 (by decide) ?_
      refine G_iadd (pc := 40) C dX12_letter_40 ?_
      refine G_iload_n (pc := 41) C 2 dX12_letter_41 rfl rfl ?_
      refine G_iadd (pc := 42) C dX12_letter_42 ?_
      obtain ⟨hk, hi, hw⟩ := hw
      refine G_iald (pc := 43) C hk hi dX12_letter_43 ?_
      refine G_goto (pc := 44) C 49 dX12_letter_44 (by decide) ?_
      exact G_sub [] rfl (g_X12_letter_49 C  hw)
/-! FirstPartsModel.copyRow(II)V -/
abbrev wb_X12_copyRow_2  (K2 : Int32 → Hp → Prop) (Q : Hp → Prop) (v0 : Nat) (v1 : Int32) (v2 : Int32) (v3 : Int32) (S : Hp) : Prop :=
  (((770 : Int32) ≤ v3 → Q S) ∧ (¬ (770 : Int32) ≤ v3 → kd S v0 = 13 ∧ kd S v0 = 13 ∧ ∃ b1, (gR S 193 v0 0) = some b1 ∧ kd S b1 = 20 ∧ vp_in (v1 + v3) (ln S b1) ∧ kd S b1 = 20 ∧ vp_in (v2 + v3) (ln S b1) ∧ ∀ S2 : Hp, S2 = sI S 0 b1 ((v2 + v3)).toNatClampNeg (gI S 0 b1 ((v1 + v3)).toNatClampNeg) → ∀ e3 : Int32, e3 = (v3 + 1) → K2 (e3) (S2)))
abbrev wp_X12_copyRow_2  (Q : Hp → Prop) (v0 : Nat) (v1 : Int32) (v2 : Int32) (v3 : Int32) (S : Hp) : Prop :=
  Lp (X := Int32 × Hp) (fun K y => wb_X12_copyRow_2  (fun w0 w1 => K (w0, w1)) Q v0 v1 v2 y.1 y.2) (v3, S)
abbrev wp_X12_copyRow (a0 : Nat) (x1 : Int32) (x2 : Int32) (S : Hp) (Q : Hp → Prop) : Prop :=
  wp_X12_copyRow_2 Q (a0) (x1) (x2) ((0 : Int32)) (S)
set_option maxHeartbeats 4000000 in
set_option maxRecDepth 100000 in
theorem gb_X12_copyRow_2 (C : Cx p s m args meth c z cX12_copyRow 4 RX12 none "copyRow") {K2 : Int32 → Hp → Prop} {Q : Hp → Prop} {v0 : Nat} {v1 : Int32} {v2 : Int32} {v3 : Int32} {S : Hp}  (hK2 : ∀ (w3 : Int32) (S2 : Hp), K2 w3 S2 → Go p l e { frames := 0, cells := 0, slots := 0, locals := 0 } s m args below meth c z 4 (MQ below (Qx z (wV Q)) args s 0 0 (own z)) (0) (0) 2 [(0, .ref (v0)), (1, .int (v1)), (2, .int (v2)), (3, .int (w3))] [] (S2)) (hw : wb_X12_copyRow_2  K2 Q v0 v1 v2 v3 S) : Go p l e { frames := 0, cells := 0, slots := 0, locals := 0 } s m args below meth c z 4 (MQ below (Qx z (wV Q)) args s 0 0 (own z)) (0) (0) 2 [(0, .ref (v0)), (1, .int (v1)), (2, .int (v2)), (3, .int (v3))] [] (S) := by
  refine G_iload_n (pc := 2) C 3 dX12_copyRow_2 rfl rfl ?_
  refine G_sipush (pc := 3) C (v := 770) dX12_copyRow_3 (by decide) ?_
  refine G_icmp_ge (pc := 6) C 31 dX12_copyRow_6 (by decide) (fun hc => ?_) (fun hc => ?_)
  · have hw := hw.1 hc
    exact G_vret (pc := 31) C rfl dX12_copyRow_31 ⟨rfl, hw⟩
  · have hw := hw.2 hc
    refine G_aload_n (pc := 9) C 0 dX12_copyRow_9 rfl rfl ?_
    obtain ⟨hk, hw⟩ := hw
    refine gf_RX12_7 (pc := 10) C dX12_copyRow_10 hk ?_
    refine G_iload_n (pc := 13) C 2 dX12_copyRow_13 rfl rfl ?_
    refine G_iload_n (pc := 14) C 3 dX12_copyRow_14 rfl rfl ?_
    refine G_iadd (pc := 15) C dX12_copyRow_15 ?_
    refine G_aload_n (pc := 16) C 0 dX12_copyRow_16 rfl rfl ?_
    obtain ⟨hk, hw⟩ := hw
    refine gf_RX12_7 (pc := 17) C dX12_copyRow_17 hk ?_
    refine G_iload_n (pc := 20) C 1 dX12_copyRow_20 rfl rfl ?_
    refine G_iload_n (pc := 21) C 3 dX12_copyRow_21 rfl rfl ?_
    refine G_iadd (pc := 22) C dX12_copyRow_22 ?_
    obtain ⟨b1, hq, hw⟩ := hw
    rw [hq]
    obtain ⟨hk, hi, hw⟩ := hw
    refine G_iald (pc := 23) C hk hi dX12_copyRow_23 ?_
    obtain ⟨hk, hi, hw⟩ := hw
    refine G_iast (pc := 24) C hk hi dX12_copyRow_24 ?_
    obtain ⟨S2, hS2⟩ : ∃ y : Hp, y = sI S 0 b1 ((v2 + v3)).toNatClampNeg (gI S 0 b1 ((v1 + v3)).toNatClampNeg) := ⟨_, rfl⟩
    have hw := hw S2 hS2
    rw [← hS2]
    clear hS2
    obtain ⟨e3, he3⟩ : ∃ y : Int32, y = (v3 + 1) := ⟨_, rfl⟩
    have hw := hw e3 he3
    refine G_iinc (pc := 25) C [(3, .int (e3)), (0, .ref (v0)), (1, .int (v1)), (2, .int (v2))] 3 (v := e3) dX12_copyRow_25 rfl (by rw [he3]; rfl) (by decide) rfl ?_
    clear he3
    refine G_goto (pc := 28) C 2 dX12_copyRow_28 (by decide) ?_
    exact G_sub [1, 2, 3, 0] rfl (hK2 _ _ hw)
set_option maxHeartbeats 4000000 in
set_option maxRecDepth 100000 in
theorem g_X12_copyRow_2 (C : Cx p s m args meth c z cX12_copyRow 4 RX12 none "copyRow")  {Q : Hp → Prop} {v0 : Nat} {v1 : Int32} {v2 : Int32} {v3 : Int32} {S : Hp}   (hw : wp_X12_copyRow_2  Q v0 v1 v2 v3 S) : Go p l e { frames := 0, cells := 0, slots := 0, locals := 0 } s m args below meth c z 4 (MQ below (Qx z (wV Q)) args s 0 0 (own z)) (0) (0) 2 [(0, .ref (v0)), (1, .int (v1)), (2, .int (v2)), (3, .int (v3))] [] (S) :=
  Lp_go (G := fun y : Int32 × Hp => Go p l e { frames := 0, cells := 0, slots := 0, locals := 0 } s m args below meth c z 4 (MQ below (Qx z (wV Q)) args s 0 0 (own z)) (0) (0) 2 [(0, .ref (v0)), (1, .int (v1)), (2, .int (v2)), (3, .int (y.1))] [] (y.2)) (fun K y hK hB => gb_X12_copyRow_2 C  (fun w0 w1 h => hK (w0, w1) h) hB) hw
set_option maxHeartbeats 4000000 in
set_option maxRecDepth 100000 in
theorem c_X12_copyRow (l : Launch) (z : Zt) (a0 : Nat) (x1 : Int32) (x2 : Int32) (S : Hp) (Q : Hp → Prop) (hw : wp_X12_copyRow a0 x1 x2 S Q) : Ct l z yX12_copyRow cX12_copyRow 4 none 0 0 0 0 [.ref (a0), .int (x1), .int (x2)] S (wV Q) := by
  refine Ct_of (by decide) (Nat.le_of_ble_eq_true rfl) ?_
  intro p e s m args below meth c C
  have C : Cx p s m args meth c z cX12_copyRow 4 RX12 none "copyRow" := C
  refine G_sub (lv' := [(0, .ref (a0)), (1, .int (x1)), (2, .int (x2))]) [0, 1, 2] rfl ?_
  refine G_iconst (pc := 0) C (v := 0) dX12_copyRow_0 (by decide) ?_
  refine G_istore_n (pc := 1) C [(3, .int ((0 : Int32))), (0, .ref (a0)), (1, .int (x1)), (2, .int (x2))] dX12_copyRow_1 rfl (by decide) rfl ?_
  exact G_sub [1, 2, 3, 0] rfl (g_X12_copyRow_2 C  hw)
/-! FirstPartsModel.notes()V -/
abbrev wp_X12_notes_63  (Q : Hp → Prop) (v0 : Nat) (s0 : Int32) (s1 : Int32) (s2 : Nat) (S : Hp) : Prop :=
  kd S s2 = 13 ∧ ∀ S1 : Hp, S1 = sI S 194 s2 0 (s1 - s0) → kd S1 v0 = 13 ∧ kd S1 v0 = 13 ∧ wp_X12_copyRow (v0) ((0 : Int32)) (((770 : Int32) + ((770 : Int32) * (gI S1 194 v0 0)))) S1 (fun S3 => kd S3 v0 = 13 ∧ kd S3 v0 = 13 ∧ ∀ S4 : Hp, S4 = sI S3 194 v0 0 ((gI S3 194 v0 0) + (1 : Int32)) → Q S4)
abbrev wp_X12_notes_44  (Q : Hp → Prop) (v0 : Nat) (S : Hp) : Prop :=
  kd S v0 = 13 ∧ kd S v0 = 13 ∧ (((gI S 194 v0 0) ≠ (8 : Int32) → wp_X12_notes_63 Q (v0) ((0 : Int32)) ((gI S 194 v0 0)) (v0) (S)) ∧ ((gI S 194 v0 0) = (8 : Int32) → wp_X12_notes_63 Q (v0) ((1 : Int32)) ((gI S 194 v0 0)) (v0) (S)))
abbrev wb_X12_notes_2  (K2 : Int32 → Hp → Prop) (Q : Hp → Prop) (v0 : Nat) (v1 : Int32) (S : Hp) : Prop :=
  (((5390 : Int32) ≤ v1 → wp_X12_notes_44 Q (v0) (S)) ∧ (¬ (5390 : Int32) ≤ v1 → kd S v0 = 13 ∧ (((gI S 194 v0 0) ≠ (8 : Int32) → wp_X12_notes_44 Q (v0) (S)) ∧ ((gI S 194 v0 0) = (8 : Int32) → kd S v0 = 13 ∧ kd S v0 = 13 ∧ ∃ b5, (gR S 193 v0 0) = some b5 ∧ kd S b5 = 20 ∧ vp_in ((1540 : Int32) + v1) (ln S b5) ∧ kd S b5 = 20 ∧ vp_in ((770 : Int32) + v1) (ln S b5) ∧ ∀ S6 : Hp, S6 = sI S 0 b5 (((770 : Int32) + v1)).toNatClampNeg (gI S 0 b5 (((1540 : Int32) + v1)).toNatClampNeg) → ∀ e7 : Int32, e7 = (v1 + 1) → K2 (e7) (S6)))))
abbrev wp_X12_notes_2  (Q : Hp → Prop) (v0 : Nat) (v1 : Int32) (S : Hp) : Prop :=
  Lp (X := Int32 × Hp) (fun K y => wb_X12_notes_2  (fun w0 w1 => K (w0, w1)) Q v0 y.1 y.2) (v1, S)
abbrev wp_X12_notes (a0 : Nat) (S : Hp) (Q : Hp → Prop) : Prop :=
  wp_X12_notes_2 Q (a0) ((0 : Int32)) (S)
set_option maxHeartbeats 4000000 in
set_option maxRecDepth 100000 in
theorem g_X12_notes_63 (C : Cx p s m args meth c z cX12_notes 2 RX12 none "notes")  {Q : Hp → Prop} {v0 : Nat} {s0 : Int32} {s1 : Int32} {s2 : Nat} {S : Hp}   (hw : wp_X12_notes_63  Q v0 s0 s1 s2 S) : Go p l e { frames := 1, cells := 0, slots := 0, locals := 23 } s m args below meth c z 2 (MQ below (Qx z (wV Q)) args s 0 0 (own z)) (0) (0) 63 [(0, .ref (v0))] [.int (s0), .int (s1), .ref (s2)] (S) := by
  refine G_isub (pc := 63) C dX12_notes_63 ?_
  obtain ⟨hk, hw⟩ := hw
  refine pf_RX12_108 (pc := 64) C dX12_notes_64 hk ?_
  obtain ⟨S1, hS1⟩ : ∃ y : Hp, y = sI S 194 s2 0 (s1 - s0) := ⟨_, rfl⟩
  have hw := hw S1 hS1
  rw [← hS1]
  clear hS1
  refine G_aload_n (pc := 67) C 0 dX12_notes_67 rfl rfl ?_
  refine G_iconst (pc := 68) C (v := 0) dX12_notes_68 (by decide) ?_
  refine G_sipush (pc := 69) C (v := 770) dX12_notes_69 (by decide) ?_
  refine G_sipush (pc := 72) C (v := 770) dX12_notes_72 (by decide) ?_
  refine G_aload_n (pc := 75) C 0 dX12_notes_75 rfl rfl ?_
  obtain ⟨hk, hw⟩ := hw
  refine gf_RX12_108 (pc := 76) C dX12_notes_76 hk ?_
  refine G_imul (pc := 79) C dX12_notes_79 ?_
  refine G_iadd (pc := 80) C dX12_notes_80 ?_
  obtain ⟨hk, hw⟩ := hw
  refine cl_RX12_116 (pc := 81) C (c_X12_copyRow l z (v0) ((0 : Int32)) (((770 : Int32) + ((770 : Int32) * (gI S1 194 v0 0)))) S1 _ hw) ⟨Nat.le_of_ble_eq_true rfl, Nat.le_of_ble_eq_true rfl⟩ hk dX12_notes_81 (Nat.le_of_ble_eq_true rfl) (fun v S' hp => ?_)
  clear hw
  obtain ⟨rfl, hw⟩ := hp
  generalize S' = S3 at hw ⊢
  refine G_aload_n (pc := 84) C 0 dX12_notes_84 rfl rfl ?_
  refine G_dup (pc := 85) C dX12_notes_85 rfl ?_
  obtain ⟨hk, hw⟩ := hw
  refine gf_RX12_108 (pc := 86) C dX12_notes_86 hk ?_
  refine G_iconst (pc := 89) C (v := 1) dX12_notes_89 (by decide) ?_
  refine G_iadd (pc := 90) C dX12_notes_90 ?_
  obtain ⟨hk, hw⟩ := hw
  refine pf_RX12_108 (pc := 91) C dX12_notes_91 hk ?_
  obtain ⟨S4, hS4⟩ : ∃ y : Hp, y = sI S3 194 v0 0 ((gI S3 194 v0 0) + (1 : Int32)) := ⟨_, rfl⟩
  have hw := hw S4 hS4
  rw [← hS4]
  clear hS4
  exact G_vret (pc := 94) C rfl dX12_notes_94 ⟨rfl, hw⟩
set_option maxHeartbeats 4000000 in
set_option maxRecDepth 100000 in
theorem g_X12_notes_44 (C : Cx p s m args meth c z cX12_notes 2 RX12 none "notes")  {Q : Hp → Prop} {v0 : Nat} {S : Hp}   (hw : wp_X12_notes_44  Q v0 S) : Go p l e { frames := 1, cells := 0, slots := 0, locals := 23 } s m args below meth c z 2 (MQ below (Qx z (wV Q)) args s 0 0 (own z)) (0) (0) 44 [(0, .ref (v0))] [] (S) := by
  refine G_aload_n (pc := 44) C 0 dX12_notes_44 rfl rfl ?_
  refine G_dup (pc := 45) C dX12_notes_45 rfl ?_
  obtain ⟨hk, hw⟩ := hw
  refine gf_RX12_108 (pc := 46) C dX12_notes_46 hk ?_
  refine G_aload_n (pc := 49) C 0 dX12_notes_49 rfl rfl ?_
  obtain ⟨hk, hw⟩ := hw
  refine gf_RX12_108 (pc := 50) C dX12_notes_50 hk ?_
  refine G_bipush (pc := 53) C (v := 8) dX12_notes_53 (by decide) ?_
  refine G_icmp_ne (pc := 55) C 62 dX12_notes_55 (by decide) (fun hc => ?_) (fun hc => ?_)
  · have hw := hw.1 hc
    refine G_iconst (pc := 62) C (v := 0) dX12_notes_62 (by decide) ?_
    exact G_sub [0] rfl (g_X12_notes_63 C  hw)
  · have hw := hw.2 hc
    refine G_iconst (pc := 58) C (v := 1) dX12_notes_58 (by decide) ?_
    refine G_goto (pc := 59) C 63 dX12_notes_59 (by decide) ?_
    exact G_sub [0] rfl (g_X12_notes_63 C  hw)
set_option maxHeartbeats 4000000 in
set_option maxRecDepth 100000 in
theorem gb_X12_notes_2 (C : Cx p s m args meth c z cX12_notes 2 RX12 none "notes") {K2 : Int32 → Hp → Prop} {Q : Hp → Prop} {v0 : Nat} {v1 : Int32} {S : Hp}  (hK2 : ∀ (w1 : Int32) (S2 : Hp), K2 w1 S2 → Go p l e { frames := 1, cells := 0, slots := 0, locals := 23 } s m args below meth c z 2 (MQ below (Qx z (wV Q)) args s 0 0 (own z)) (0) (0) 2 [(0, .ref (v0)), (1, .int (w1))] [] (S2)) (hw : wb_X12_notes_2  K2 Q v0 v1 S) : Go p l e { frames := 1, cells := 0, slots := 0, locals := 23 } s m args below meth c z 2 (MQ below (Qx z (wV Q)) args s 0 0 (own z)) (0) (0) 2 [(0, .ref (v0)), (1, .int (v1))] [] (S) := by
  refine G_iload_n (pc := 2) C 1 dX12_notes_2 rfl rfl ?_
  refine G_sipush (pc := 3) C (v := 5390) dX12_notes_3 (by decide) ?_
  refine G_icmp_ge (pc := 6) C 44 dX12_notes_6 (by decide) (fun hc => ?_) (fun hc => ?_)
  · have hw := hw.1 hc
    exact G_sub [0] rfl (g_X12_notes_44 C  hw)
  · have hw := hw.2 hc
    refine G_aload_n (pc := 9) C 0 dX12_notes_9 rfl rfl ?_
    obtain ⟨hk, hw⟩ := hw
    refine gf_RX12_108 (pc := 10) C dX12_notes_10 hk ?_
    refine G_bipush (pc := 13) C (v := 8) dX12_notes_13 (by decide) ?_
    refine G_icmp_ne (pc := 15) C 44 dX12_notes_15 (by decide) (fun hc => ?_) (fun hc => ?_)
    · have hw := hw.1 hc
      exact G_sub [0] rfl (g_X12_notes_44 C  hw)
    · have hw := hw.2 hc
      refine G_aload_n (pc := 18) C 0 dX12_notes_18 rfl rfl ?_
      obtain ⟨hk, hw⟩ := hw
      refine gf_RX12_7 (pc := 19) C dX12_notes_19 hk ?_
      refine G_sipush (pc := 22) C (v := 770) dX12_notes_22 (by decide) ?_
      refine G_iload_n (pc := 25) C 1 dX12_notes_25 rfl rfl ?_
      refine G_iadd (pc := 26) C dX12_notes_26 ?_
      refine G_aload_n (pc := 27) C 0 dX12_notes_27 rfl rfl ?_
      obtain ⟨hk, hw⟩ := hw
      refine gf_RX12_7 (pc := 28) C dX12_notes_28 hk ?_
      refine G_sipush (pc := 31) C (v := 1540) dX12_notes_31 (by decide) ?_
      refine G_iload_n (pc := 34) C 1 dX12_notes_34 rfl rfl ?_
      refine G_iadd (pc := 35) C dX12_notes_35 ?_
      obtain ⟨b5, hq, hw⟩ := hw
      rw [hq]
      obtain ⟨hk, hi, hw⟩ := hw
      refine G_iald (pc := 36) C hk hi dX12_notes_36 ?_
      obtain ⟨hk, hi, hw⟩ := hw
      refine G_iast (pc := 37) C hk hi dX12_notes_37 ?_
      obtain ⟨S6, hS6⟩ : ∃ y : Hp, y = sI S 0 b5 (((770 : Int32) + v1)).toNatClampNeg (gI S 0 b5 (((1540 : Int32) + v1)).toNatClampNeg) := ⟨_, rfl⟩
      have hw := hw S6 hS6
      rw [← hS6]
      clear hS6
      obtain ⟨e7, he7⟩ : ∃ y : Int32, y = (v1 + 1) := ⟨_, rfl⟩
      have hw := hw e7 he7
      refine G_iinc (pc := 38) C [(1, .int (e7)), (0, .ref (v0))] 1 (v := e7) dX12_notes_38 rfl (by rw [he7]; rfl) (by decide) rfl ?_
      clear he7
      refine G_goto (pc := 41) C 2 dX12_notes_41 (by decide) ?_
      exact G_sub [1, 0] rfl (hK2 _ _ hw)
set_option maxHeartbeats 4000000 in
set_option maxRecDepth 100000 in
theorem g_X12_notes_2 (C : Cx p s m args meth c z cX12_notes 2 RX12 none "notes")  {Q : Hp → Prop} {v0 : Nat} {v1 : Int32} {S : Hp}   (hw : wp_X12_notes_2  Q v0 v1 S) : Go p l e { frames := 1, cells := 0, slots := 0, locals := 23 } s m args below meth c z 2 (MQ below (Qx z (wV Q)) args s 0 0 (own z)) (0) (0) 2 [(0, .ref (v0)), (1, .int (v1))] [] (S) :=
  Lp_go (G := fun y : Int32 × Hp => Go p l e { frames := 1, cells := 0, slots := 0, locals := 23 } s m args below meth c z 2 (MQ below (Qx z (wV Q)) args s 0 0 (own z)) (0) (0) 2 [(0, .ref (v0)), (1, .int (y.1))] [] (y.2)) (fun K y hK hB => gb_X12_notes_2 C  (fun w0 w1 h => hK (w0, w1) h) hB) hw
set_option maxHeartbeats 4000000 in
set_option maxRecDepth 100000 in
theorem c_X12_notes (l : Launch) (z : Zt) (a0 : Nat) (S : Hp) (Q : Hp → Prop) (hw : wp_X12_notes a0 S Q) : Ct l z yX12_notes cX12_notes 2 none 1 23 0 0 [.ref (a0)] S (wV Q) := by
  refine Ct_of (by decide) (Nat.le_of_ble_eq_true rfl) ?_
  intro p e s m args below meth c C
  have C : Cx p s m args meth c z cX12_notes 2 RX12 none "notes" := C
  refine G_sub (lv' := [(0, .ref (a0))]) [0] rfl ?_
  refine G_iconst (pc := 0) C (v := 0) dX12_notes_0 (by decide) ?_
  refine G_istore_n (pc := 1) C [(1, .int ((0 : Int32))), (0, .ref (a0))] dX12_notes_1 rfl (by decide) rfl ?_
  exact G_sub [1, 0] rfl (g_X12_notes_2 C  hw)
end W17model1leantxt
