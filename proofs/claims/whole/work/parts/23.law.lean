section LAWAUX
variable {p : Program} {l : Launch} {e : Env} {R : Room} {s : State} {m : MethodId} {args : Array Value} {below : List Frame} {meth : Method} {c : Code} {z : Zt} {cc : ByteArray} {nL : Nat} {ow : String} {ret : Option FieldType} {nm : String} {Q : State → Prop} {bc bs pc : Nat} {lv : List (Nat × Value)} {st : List Value} {S : Hp}
theorem dsc_X11_init : dsc yX11_init 0 := ⟨by decide, by decide, by decide +kernel⟩
theorem cl_RL_9 (C : Cx p s m args meth c z cc nL RL ret nm) {a : Nat}  {rest : List Value} {post : Option Value → Hp → Prop} (hm : Ct l z yX11_init cX11_init 1 none 5 108 126 1898 [.ref a] S post) (hR : 5 + 1 ≤ R.frames ∧ 8 + (1 + 11) + 108 ≤ R.locals) (hd : decode cc pc = .ok (.invokespecial 9, 3)) (hW : (rest.map fun v => v.category).sum ≤ 8) (k : ∀ (v : Option Value) (S' : Hp), post v S' → Go p l e R s m args below meth c z nL Q bc bs (pc + 3) lv (v.toList ++ rest) S') : Go p l e R s m args below meth c z nL Q (bc + 126) (bs + 1898) pc lv (.ref a :: rest) S := G_callI C rfl (gt_t 23 (by decide +kernel) rfl) (gt_t 24 (by decide +kernel) rfl) (gt_t 1 (by decide +kernel) rfl) (gt_t 25 (by decide +kernel) rfl) (dsc_X11_init) hm rfl hR rfl hW hd k
theorem dsc_X12_init : dsc yX12_init 0 := ⟨by decide, by decide, by decide +kernel⟩
theorem cl_RL_12 (C : Cx p s m args meth c z cc nL RL ret nm) {a : Nat}  {rest : List Value} {post : Option Value → Hp → Prop} (hm : Ct l z yX12_init cX12_init 1 none 1 20 7 7464 [.ref a] S post) (hR : 1 + 1 ≤ R.frames ∧ 8 + (1 + 11) + 20 ≤ R.locals) (hd : decode cc pc = .ok (.invokespecial 12, 3)) (hW : (rest.map fun v => v.category).sum ≤ 8) (k : ∀ (v : Option Value) (S' : Hp), post v S' → Go p l e R s m args below meth c z nL Q bc bs (pc + 3) lv (v.toList ++ rest) S') : Go p l e R s m args below meth c z nL Q (bc + 7) (bs + 7464) pc lv (.ref a :: rest) S := G_callI C rfl (gt_t 824 (by decide +kernel) rfl) (gt_t 825 (by decide +kernel) rfl) (gt_t 14 (by decide +kernel) rfl) (gt_t 826 (by decide +kernel) rfl) (dsc_X12_init) hm rfl hR rfl hW hd k
theorem dsc_X11_write : dsc yX11_write 1 := ⟨by decide, by decide, by decide +kernel⟩
theorem cl_RL_13 (C : Cx p s m args meth c z cc nL RL ret nm) {a : Nat} {q0 : Int32} {rest : List Value} {post : Option Value → Hp → Prop} (hm : Ct l z yX11_write cX11_write 2 (some .int) 1 22 0 0 [.ref a, .int (q0)] S post) (hR : 1 + 1 ≤ R.frames ∧ 8 + (2 + 11) + 22 ≤ R.locals) (hk : kd S a = 12) (hd : decode cc pc = .ok (.invokevirtual 13, 3)) (hW : (rest.map fun v => v.category).sum ≤ 8) (k : ∀ (v : Option Value) (S' : Hp), post v S' → Go p l e R s m args below meth c z nL Q bc bs (pc + 3) lv (v.toList ++ rest) S') : Go p l e R s m args below meth c z nL Q bc bs pc lv (.int (q0) :: .ref a :: rest) S := G_callV C 11 7 rfl rfl (gt_t 374 (by decide +kernel) rfl) (gt_t 375 (by decide +kernel) rfl) (gt_t 376 (by decide +kernel) rfl) (gt_t 1 (by decide +kernel) rfl) (gt_t 377 (by decide +kernel) rfl) (dsc_X11_write) hm rfl hR hk rfl hW hd k
theorem dsc_X12_write : dsc yX12_write 1 := ⟨by decide, by decide, by decide +kernel⟩
theorem cl_RL_17 (C : Cx p s m args meth c z cc nL RL ret nm) {a : Nat} {q0 : Int32} {rest : List Value} {post : Option Value → Hp → Prop} (hm : Ct l z yX12_write cX12_write 2 (some .int) 1 25 0 0 [.ref a, .int (q0)] S post) (hR : 1 + 1 ≤ R.frames ∧ 8 + (2 + 11) + 25 ≤ R.locals) (hk : kd S a = 13) (hd : decode cc pc = .ok (.invokevirtual 17, 3)) (hW : (rest.map fun v => v.category).sum ≤ 8) (k : ∀ (v : Option Value) (S' : Hp), post v S' → Go p l e R s m args below meth c z nL Q bc bs (pc + 3) lv (v.toList ++ rest) S') : Go p l e R s m args below meth c z nL Q bc bs pc lv (.int (q0) :: .ref a :: rest) S := G_callV C 12 14 rfl rfl (gt_t 871 (by decide +kernel) rfl) (gt_t 872 (by decide +kernel) rfl) (gt_t 873 (by decide +kernel) rfl) (gt_t 14 (by decide +kernel) rfl) (gt_t 874 (by decide +kernel) rfl) (dsc_X12_write) hm rfl hR hk rfl hW hd k
theorem dsc_X11_erase : dsc yX11_erase 0 := ⟨by decide, by decide, by decide +kernel⟩
theorem cl_RL_18 (C : Cx p s m args meth c z cc nL RL ret nm) {a : Nat}  {rest : List Value} {post : Option Value → Hp → Prop} (hm : Ct l z yX11_erase cX11_erase 2 (some .int) 0 0 0 0 [.ref a] S post) (hR : 0 + 1 ≤ R.frames ∧ 8 + (2 + 11) + 0 ≤ R.locals) (hk : kd S a = 12) (hd : decode cc pc = .ok (.invokevirtual 18, 3)) (hW : (rest.map fun v => v.category).sum ≤ 8) (k : ∀ (v : Option Value) (S' : Hp), post v S' → Go p l e R s m args below meth c z nL Q bc bs (pc + 3) lv (v.toList ++ rest) S') : Go p l e R s m args below meth c z nL Q bc bs pc lv (.ref a :: rest) S := G_callV C 11 7 rfl rfl (gt_t 382 (by decide +kernel) rfl) (gt_t 383 (by decide +kernel) rfl) (gt_t 384 (by decide +kernel) rfl) (gt_t 1 (by decide +kernel) rfl) (gt_t 385 (by decide +kernel) rfl) (dsc_X11_erase) hm rfl hR hk rfl hW hd k
theorem dsc_X12_erase : dsc yX12_erase 0 := ⟨by decide, by decide, by decide +kernel⟩
theorem cl_RL_22 (C : Cx p s m args meth c z cc nL RL ret nm) {a : Nat}  {rest : List Value} {post : Option Value → Hp → Prop} (hm : Ct l z yX12_erase cX12_erase 2 (some .int) 0 0 0 0 [.ref a] S post) (hR : 0 + 1 ≤ R.frames ∧ 8 + (2 + 11) + 0 ≤ R.locals) (hk : kd S a = 13) (hd : decode cc pc = .ok (.invokevirtual 22, 3)) (hW : (rest.map fun v => v.category).sum ≤ 8) (k : ∀ (v : Option Value) (S' : Hp), post v S' → Go p l e R s m args below meth c z nL Q bc bs (pc + 3) lv (v.toList ++ rest) S') : Go p l e R s m args below meth c z nL Q bc bs pc lv (.ref a :: rest) S := G_callV C 12 14 rfl rfl (gt_t 879 (by decide +kernel) rfl) (gt_t 880 (by decide +kernel) rfl) (gt_t 881 (by decide +kernel) rfl) (gt_t 14 (by decide +kernel) rfl) (gt_t 882 (by decide +kernel) rfl) (dsc_X12_erase) hm rfl hR hk rfl hW hd k
theorem dsc_X11_fault : dsc yX11_fault 0 := ⟨by decide, by decide, by decide +kernel⟩
theorem cl_RL_23 (C : Cx p s m args meth c z cc nL RL ret nm) {a : Nat}  {rest : List Value} {post : Option Value → Hp → Prop} (hm : Ct l z yX11_fault cX11_fault 1 (some .int) 7 152 0 0 [.ref a] S post) (hR : 7 + 1 ≤ R.frames ∧ 8 + (1 + 11) + 152 ≤ R.locals) (hk : kd S a = 12) (hd : decode cc pc = .ok (.invokevirtual 23, 3)) (hW : (rest.map fun v => v.category).sum ≤ 8) (k : ∀ (v : Option Value) (S' : Hp), post v S' → Go p l e R s m args below meth c z nL Q bc bs (pc + 3) lv (v.toList ++ rest) S') : Go p l e R s m args below meth c z nL Q bc bs pc lv (.ref a :: rest) S := G_callV C 11 7 rfl rfl (gt_t 386 (by decide +kernel) rfl) (gt_t 387 (by decide +kernel) rfl) (gt_t 388 (by decide +kernel) rfl) (gt_t 1 (by decide +kernel) rfl) (gt_t 389 (by decide +kernel) rfl) (dsc_X11_fault) hm rfl hR hk rfl hW hd k
theorem dsc_X12_fault : dsc yX12_fault 0 := ⟨by decide, by decide, by decide +kernel⟩
theorem cl_RL_26 (C : Cx p s m args meth c z cc nL RL ret nm) {a : Nat}  {rest : List Value} {post : Option Value → Hp → Prop} (hm : Ct l z yX12_fault cX12_fault 1 (some .int) 7 160 0 0 [.ref a] S post) (hR : 7 + 1 ≤ R.frames ∧ 8 + (1 + 11) + 160 ≤ R.locals) (hk : kd S a = 13) (hd : decode cc pc = .ok (.invokevirtual 26, 3)) (hW : (rest.map fun v => v.category).sum ≤ 8) (k : ∀ (v : Option Value) (S' : Hp), post v S' → Go p l e R s m args below meth c z nL Q bc bs (pc + 3) lv (v.toList ++ rest) S') : Go p l e R s m args below meth c z nL Q bc bs pc lv (.ref a :: rest) S := G_callV C 12 14 rfl rfl (gt_t 883 (by decide +kernel) rfl) (gt_t 884 (by decide +kernel) rfl) (gt_t 885 (by decide +kernel) rfl) (gt_t 14 (by decide +kernel) rfl) (gt_t 886 (by decide +kernel) rfl) (dsc_X12_fault) hm rfl hR hk rfl hW hd k
theorem dsc_X11_tell : dsc yX11_tell 0 := ⟨by decide, by decide, by decide +kernel⟩
theorem cl_RL_27 (C : Cx p s m args meth c z cc nL RL ret nm) {a : Nat}  {rest : List Value} {post : Option Value → Hp → Prop} (hm : Ct l z yX11_tell cX11_tell 2 (some .int) 7 152 48 360 [.ref a] S post) (hR : 7 + 1 ≤ R.frames ∧ 8 + (2 + 11) + 152 ≤ R.locals) (hk : kd S a = 12) (hd : decode cc pc = .ok (.invokevirtual 27, 3)) (hW : (rest.map fun v => v.category).sum ≤ 8) (k : ∀ (v : Option Value) (S' : Hp), post v S' → Go p l e R s m args below meth c z nL Q bc bs (pc + 3) lv (v.toList ++ rest) S') : Go p l e R s m args below meth c z nL Q (bc + 48) (bs + 360) pc lv (.ref a :: rest) S := G_callV C 11 7 rfl rfl (gt_t 489 (by decide +kernel) rfl) (gt_t 490 (by decide +kernel) rfl) (gt_t 491 (by decide +kernel) rfl) (gt_t 1 (by decide +kernel) rfl) (gt_t 492 (by decide +kernel) rfl) (dsc_X11_tell) hm rfl hR hk rfl hW hd k
theorem dsc_X12_tell : dsc yX12_tell 0 := ⟨by decide, by decide, by decide +kernel⟩
theorem cl_RL_30 (C : Cx p s m args meth c z cc nL RL ret nm) {a : Nat}  {rest : List Value} {post : Option Value → Hp → Prop} (hm : Ct l z yX12_tell cX12_tell 1 (some .int) 7 160 0 0 [.ref a] S post) (hR : 7 + 1 ≤ R.frames ∧ 8 + (1 + 11) + 160 ≤ R.locals) (hk : kd S a = 13) (hd : decode cc pc = .ok (.invokevirtual 30, 3)) (hW : (rest.map fun v => v.category).sum ≤ 8) (k : ∀ (v : Option Value) (S' : Hp), post v S' → Go p l e R s m args below meth c z nL Q bc bs (pc + 3) lv (v.toList ++ rest) S') : Go p l e R s m args below meth c z nL Q bc bs pc lv (.ref a :: rest) S := G_callV C 12 14 rfl rfl (gt_t 924 (by decide +kernel) rfl) (gt_t 925 (by decide +kernel) rfl) (gt_t 926 (by decide +kernel) rfl) (gt_t 14 (by decide +kernel) rfl) (gt_t 927 (by decide +kernel) rfl) (dsc_X12_tell) hm rfl hR hk rfl hW hd k
theorem dsc_X11_part : dsc yX11_part 2 := ⟨by decide, by decide, by decide +kernel⟩
theorem cl_RL_31 (C : Cx p s m args meth c z cc nL RL ret nm) {a : Nat} {q0 : Int32} {q1 : Int32} {rest : List Value} {post : Option Value → Hp → Prop} (hm : Ct l z yX11_part cX11_part 4 (some .int) 2 43 0 0 [.ref a, .int (q0), .int (q1)] S post) (hR : 2 + 1 ≤ R.frames ∧ 8 + (4 + 11) + 43 ≤ R.locals) (hk : kd S a = 12) (hd : decode cc pc = .ok (.invokevirtual 31, 3)) (hW : (rest.map fun v => v.category).sum ≤ 8) (k : ∀ (v : Option Value) (S' : Hp), post v S' → Go p l e R s m args below meth c z nL Q bc bs (pc + 3) lv (v.toList ++ rest) S') : Go p l e R s m args below meth c z nL Q bc bs pc lv (.int (q1) :: .int (q0) :: .ref a :: rest) S := G_callV C 11 7 rfl rfl (gt_t 521 (by decide +kernel) rfl) (gt_t 522 (by decide +kernel) rfl) (gt_t 523 (by decide +kernel) rfl) (gt_t 1 (by decide +kernel) rfl) (gt_t 524 (by decide +kernel) rfl) (dsc_X11_part) hm rfl hR hk rfl hW hd k
theorem dsc_X12_part : dsc yX12_part 2 := ⟨by decide, by decide, by decide +kernel⟩
theorem cl_RL_35 (C : Cx p s m args meth c z cc nL RL ret nm) {a : Nat} {q0 : Int32} {q1 : Int32} {rest : List Value} {post : Option Value → Hp → Prop} (hm : Ct l z yX12_part cX12_part 3 (some .int) 2 46 0 0 [.ref a, .int (q0), .int (q1)] S post) (hR : 2 + 1 ≤ R.frames ∧ 8 + (3 + 11) + 46 ≤ R.locals) (hk : kd S a = 13) (hd : decode cc pc = .ok (.invokevirtual 35, 3)) (hW : (rest.map fun v => v.category).sum ≤ 8) (k : ∀ (v : Option Value) (S' : Hp), post v S' → Go p l e R s m args below meth c z nL Q bc bs (pc + 3) lv (v.toList ++ rest) S') : Go p l e R s m args below meth c z nL Q bc bs pc lv (.int (q1) :: .int (q0) :: .ref a :: rest) S := G_callV C 12 14 rfl rfl (gt_t 928 (by decide +kernel) rfl) (gt_t 929 (by decide +kernel) rfl) (gt_t 930 (by decide +kernel) rfl) (gt_t 14 (by decide +kernel) rfl) (gt_t 931 (by decide +kernel) rfl) (dsc_X12_part) hm rfl hR hk rfl hW hd k
theorem dsc_X11_letter : dsc yX11_letter 2 := ⟨by decide, by decide, by decide +kernel⟩
theorem cl_RL_36 (C : Cx p s m args meth c z cc nL RL ret nm) {a : Nat} {q0 : Int32} {q1 : Int32} {rest : List Value} {post : Option Value → Hp → Prop} (hm : Ct l z yX11_letter cX11_letter 3 (some .int) 2 43 0 0 [.ref a, .int (q0), .int (q1)] S post) (hR : 2 + 1 ≤ R.frames ∧ 8 + (3 + 11) + 43 ≤ R.locals) (hk : kd S a = 12) (hd : decode cc pc = .ok (.invokevirtual 36, 3)) (hW : (rest.map fun v => v.category).sum ≤ 8) (k : ∀ (v : Option Value) (S' : Hp), post v S' → Go p l e R s m args below meth c z nL Q bc bs (pc + 3) lv (v.toList ++ rest) S') : Go p l e R s m args below meth c z nL Q bc bs pc lv (.int (q1) :: .int (q0) :: .ref a :: rest) S := G_callV C 11 7 rfl rfl (gt_t 531 (by decide +kernel) rfl) (gt_t 532 (by decide +kernel) rfl) (gt_t 533 (by decide +kernel) rfl) (gt_t 1 (by decide +kernel) rfl) (gt_t 534 (by decide +kernel) rfl) (dsc_X11_letter) hm rfl hR hk rfl hW hd k
theorem dsc_X12_letter : dsc yX12_letter 2 := ⟨by decide, by decide, by decide +kernel⟩
theorem cl_RL_39 (C : Cx p s m args meth c z cc nL RL ret nm) {a : Nat} {q0 : Int32} {q1 : Int32} {rest : List Value} {post : Option Value → Hp → Prop} (hm : Ct l z yX12_letter cX12_letter 3 (some .int) 2 46 0 0 [.ref a, .int (q0), .int (q1)] S post) (hR : 2 + 1 ≤ R.frames ∧ 8 + (3 + 11) + 46 ≤ R.locals) (hk : kd S a = 13) (hd : decode cc pc = .ok (.invokevirtual 39, 3)) (hW : (rest.map fun v => v.category).sum ≤ 8) (k : ∀ (v : Option Value) (S' : Hp), post v S' → Go p l e R s m args below meth c z nL Q bc bs (pc + 3) lv (v.toList ++ rest) S') : Go p l e R s m args below meth c z nL Q bc bs pc lv (.int (q1) :: .int (q0) :: .ref a :: rest) S := G_callV C 12 14 rfl rfl (gt_t 944 (by decide +kernel) rfl) (gt_t 945 (by decide +kernel) rfl) (gt_t 946 (by decide +kernel) rfl) (gt_t 14 (by decide +kernel) rfl) (gt_t 947 (by decide +kernel) rfl) (dsc_X12_letter) hm rfl hR hk rfl hW hd k
theorem dsc_X11_packets : dsc yX11_packets 1 := ⟨by decide, by decide, by decide +kernel⟩
theorem cl_RL_40 (C : Cx p s m args meth c z cc nL RL ret nm) {a : Nat} {q0 : Int32} {rest : List Value} {post : Option Value → Hp → Prop} (hm : Ct l z yX11_packets cX11_packets 3 (some .int) 3 78 0 0 [.ref a, .int (q0)] S post) (hR : 3 + 1 ≤ R.frames ∧ 8 + (3 + 11) + 78 ≤ R.locals) (hk : kd S a = 12) (hd : decode cc pc = .ok (.invokevirtual 40, 3)) (hW : (rest.map fun v => v.category).sum ≤ 8) (k : ∀ (v : Option Value) (S' : Hp), post v S' → Go p l e R s m args below meth c z nL Q bc bs (pc + 3) lv (v.toList ++ rest) S') : Go p l e R s m args below meth c z nL Q bc bs pc lv (.int (q0) :: .ref a :: rest) S := G_callV C 11 7 rfl rfl (gt_t 540 (by decide +kernel) rfl) (gt_t 541 (by decide +kernel) rfl) (gt_t 542 (by decide +kernel) rfl) (gt_t 1 (by decide +kernel) rfl) (gt_t 543 (by decide +kernel) rfl) (dsc_X11_packets) hm rfl hR hk rfl hW hd k
theorem dsc_X12_packets : dsc yX12_packets 1 := ⟨by decide, by decide, by decide +kernel⟩
theorem cl_RL_43 (C : Cx p s m args meth c z cc nL RL ret nm) {a : Nat} {q0 : Int32} {rest : List Value} {post : Option Value → Hp → Prop} (hm : Ct l z yX12_packets cX12_packets 2 (some .int) 3 67 0 0 [.ref a, .int (q0)] S post) (hR : 3 + 1 ≤ R.frames ∧ 8 + (2 + 11) + 67 ≤ R.locals) (hk : kd S a = 13) (hd : decode cc pc = .ok (.invokevirtual 43, 3)) (hW : (rest.map fun v => v.category).sum ≤ 8) (k : ∀ (v : Option Value) (S' : Hp), post v S' → Go p l e R s m args below meth c z nL Q bc bs (pc + 3) lv (v.toList ++ rest) S') : Go p l e R s m args below meth c z nL Q bc bs pc lv (.int (q0) :: .ref a :: rest) S := G_callV C 12 14 rfl rfl (gt_t 948 (by decide +kernel) rfl) (gt_t 949 (by decide +kernel) rfl) (gt_t 950 (by decide +kernel) rfl) (gt_t 14 (by decide +kernel) rfl) (gt_t 951 (by decide +kernel) rfl) (dsc_X12_packets) hm rfl hR hk rfl hW hd k
theorem dsc_X11_room : dsc yX11_room 1 := ⟨by decide, by decide, by decide +kernel⟩
theorem cl_RL_44 (C : Cx p s m args meth c z cc nL RL ret nm) {a : Nat} {q0 : Int32} {rest : List Value} {post : Option Value → Hp → Prop} (hm : Ct l z yX11_room cX11_room 3 (some .int) 3 78 0 0 [.ref a, .int (q0)] S post) (hR : 3 + 1 ≤ R.frames ∧ 8 + (3 + 11) + 78 ≤ R.locals) (hk : kd S a = 12) (hd : decode cc pc = .ok (.invokevirtual 44, 3)) (hW : (rest.map fun v => v.category).sum ≤ 8) (k : ∀ (v : Option Value) (S' : Hp), post v S' → Go p l e R s m args below meth c z nL Q bc bs (pc + 3) lv (v.toList ++ rest) S') : Go p l e R s m args below meth c z nL Q bc bs pc lv (.int (q0) :: .ref a :: rest) S := G_callV C 11 7 rfl rfl (gt_t 560 (by decide +kernel) rfl) (gt_t 561 (by decide +kernel) rfl) (gt_t 562 (by decide +kernel) rfl) (gt_t 1 (by decide +kernel) rfl) (gt_t 563 (by decide +kernel) rfl) (dsc_X11_room) hm rfl hR hk rfl hW hd k
theorem dsc_X12_room : dsc yX12_room 1 := ⟨by decide, by decide, by decide +kernel⟩
theorem cl_RL_47 (C : Cx p s m args meth c z cc nL RL ret nm) {a : Nat} {q0 : Int32} {rest : List Value} {post : Option Value → Hp → Prop} (hm : Ct l z yX12_room cX12_room 2 (some .int) 3 67 0 0 [.ref a, .int (q0)] S post) (hR : 3 + 1 ≤ R.frames ∧ 8 + (2 + 11) + 67 ≤ R.locals) (hk : kd S a = 13) (hd : decode cc pc = .ok (.invokevirtual 47, 3)) (hW : (rest.map fun v => v.category).sum ≤ 8) (k : ∀ (v : Option Value) (S' : Hp), post v S' → Go p l e R s m args below meth c z nL Q bc bs (pc + 3) lv (v.toList ++ rest) S') : Go p l e R s m args below meth c z nL Q bc bs pc lv (.int (q0) :: .ref a :: rest) S := G_callV C 12 14 rfl rfl (gt_t 965 (by decide +kernel) rfl) (gt_t 966 (by decide +kernel) rfl) (gt_t 967 (by decide +kernel) rfl) (gt_t 14 (by decide +kernel) rfl) (gt_t 968 (by decide +kernel) rfl) (dsc_X12_room) hm rfl hR hk rfl hW hd k
theorem dsc_X11_need : dsc yX11_need 2 := ⟨by decide, by decide, by decide +kernel⟩
theorem cl_RL_48 (C : Cx p s m args meth c z cc nL RL ret nm) {a : Nat} {q0 : Int32} {q1 : Int32} {rest : List Value} {post : Option Value → Hp → Prop} (hm : Ct l z yX11_need cX11_need 4 (some .int) 3 78 1 3 [.ref a, .int (q0), .int (q1)] S post) (hR : 3 + 1 ≤ R.frames ∧ 8 + (4 + 11) + 78 ≤ R.locals) (hk : kd S a = 12) (hd : decode cc pc = .ok (.invokevirtual 48, 3)) (hW : (rest.map fun v => v.category).sum ≤ 8) (k : ∀ (v : Option Value) (S' : Hp), post v S' → Go p l e R s m args below meth c z nL Q bc bs (pc + 3) lv (v.toList ++ rest) S') : Go p l e R s m args below meth c z nL Q (bc + 1) (bs + 3) pc lv (.int (q1) :: .int (q0) :: .ref a :: rest) S := G_callV C 11 7 rfl rfl (gt_t 564 (by decide +kernel) rfl) (gt_t 565 (by decide +kernel) rfl) (gt_t 566 (by decide +kernel) rfl) (gt_t 1 (by decide +kernel) rfl) (gt_t 567 (by decide +kernel) rfl) (dsc_X11_need) hm rfl hR hk rfl hW hd k
theorem dsc_X12_need : dsc yX12_need 2 := ⟨by decide, by decide, by decide +kernel⟩
theorem cl_RL_51 (C : Cx p s m args meth c z cc nL RL ret nm) {a : Nat} {q0 : Int32} {q1 : Int32} {rest : List Value} {post : Option Value → Hp → Prop} (hm : Ct l z yX12_need cX12_need 3 (some .int) 3 67 0 0 [.ref a, .int (q0), .int (q1)] S post) (hR : 3 + 1 ≤ R.frames ∧ 8 + (3 + 11) + 67 ≤ R.locals) (hk : kd S a = 13) (hd : decode cc pc = .ok (.invokevirtual 51, 3)) (hW : (rest.map fun v => v.category).sum ≤ 8) (k : ∀ (v : Option Value) (S' : Hp), post v S' → Go p l e R s m args below meth c z nL Q bc bs (pc + 3) lv (v.toList ++ rest) S') : Go p l e R s m args below meth c z nL Q bc bs pc lv (.int (q1) :: .int (q0) :: .ref a :: rest) S := G_callV C 12 14 rfl rfl (gt_t 970 (by decide +kernel) rfl) (gt_t 971 (by decide +kernel) rfl) (gt_t 972 (by decide +kernel) rfl) (gt_t 14 (by decide +kernel) rfl) (gt_t 973 (by decide +kernel) rfl) (dsc_X12_need) hm rfl hR hk rfl hW hd k
theorem dsc_X11_weigh : dsc yX11_weigh 2 := ⟨by decide, by decide, by decide +kernel⟩
theorem cl_RL_52 (C : Cx p s m args meth c z cc nL RL ret nm) {a : Nat} {q0 : Int32} {q1 : Int32} {rest : List Value} {post : Option Value → Hp → Prop} (hm : Ct l z yX11_weigh cX11_weigh 4 (some .int) 3 78 1 3 [.ref a, .int (q0), .int (q1)] S post) (hR : 3 + 1 ≤ R.frames ∧ 8 + (4 + 11) + 78 ≤ R.locals) (hk : kd S a = 12) (hd : decode cc pc = .ok (.invokevirtual 52, 3)) (hW : (rest.map fun v => v.category).sum ≤ 8) (k : ∀ (v : Option Value) (S' : Hp), post v S' → Go p l e R s m args below meth c z nL Q bc bs (pc + 3) lv (v.toList ++ rest) S') : Go p l e R s m args below meth c z nL Q (bc + 1) (bs + 3) pc lv (.int (q1) :: .int (q0) :: .ref a :: rest) S := G_callV C 11 7 rfl rfl (gt_t 568 (by decide +kernel) rfl) (gt_t 569 (by decide +kernel) rfl) (gt_t 570 (by decide +kernel) rfl) (gt_t 1 (by decide +kernel) rfl) (gt_t 571 (by decide +kernel) rfl) (dsc_X11_weigh) hm rfl hR hk rfl hW hd k
theorem dsc_X12_weigh : dsc yX12_weigh 2 := ⟨by decide, by decide, by decide +kernel⟩
theorem cl_RL_55 (C : Cx p s m args meth c z cc nL RL ret nm) {a : Nat} {q0 : Int32} {q1 : Int32} {rest : List Value} {post : Option Value → Hp → Prop} (hm : Ct l z yX12_weigh cX12_weigh 3 (some .int) 3 67 0 0 [.ref a, .int (q0), .int (q1)] S post) (hR : 3 + 1 ≤ R.frames ∧ 8 + (3 + 11) + 67 ≤ R.locals) (hk : kd S a = 13) (hd : decode cc pc = .ok (.invokevirtual 55, 3)) (hW : (rest.map fun v => v.category).sum ≤ 8) (k : ∀ (v : Option Value) (S' : Hp), post v S' → Go p l e R s m args below meth c z nL Q bc bs (pc + 3) lv (v.toList ++ rest) S') : Go p l e R s m args below meth c z nL Q bc bs pc lv (.int (q1) :: .int (q0) :: .ref a :: rest) S := G_callV C 12 14 rfl rfl (gt_t 974 (by decide +kernel) rfl) (gt_t 975 (by decide +kernel) rfl) (gt_t 976 (by decide +kernel) rfl) (gt_t 14 (by decide +kernel) rfl) (gt_t 977 (by decide +kernel) rfl) (dsc_X12_weigh) hm rfl hR hk rfl hW hd k
theorem dsc_X11_drop : dsc yX11_drop 1 := ⟨by decide, by decide, by decide +kernel⟩
theorem cl_RL_56 (C : Cx p s m args meth c z cc nL RL ret nm) {a : Nat} {q0 : Int32} {rest : List Value} {post : Option Value → Hp → Prop} (hm : Ct l z yX11_drop cX11_drop 2 (some .int) 3 78 0 0 [.ref a, .int (q0)] S post) (hR : 3 + 1 ≤ R.frames ∧ 8 + (2 + 11) + 78 ≤ R.locals) (hk : kd S a = 12) (hd : decode cc pc = .ok (.invokevirtual 56, 3)) (hW : (rest.map fun v => v.category).sum ≤ 8) (k : ∀ (v : Option Value) (S' : Hp), post v S' → Go p l e R s m args below meth c z nL Q bc bs (pc + 3) lv (v.toList ++ rest) S') : Go p l e R s m args below meth c z nL Q bc bs pc lv (.int (q0) :: .ref a :: rest) S := G_callV C 11 7 rfl rfl (gt_t 572 (by decide +kernel) rfl) (gt_t 573 (by decide +kernel) rfl) (gt_t 574 (by decide +kernel) rfl) (gt_t 1 (by decide +kernel) rfl) (gt_t 575 (by decide +kernel) rfl) (dsc_X11_drop) hm rfl hR hk rfl hW hd k
theorem dsc_X12_drop : dsc yX12_drop 1 := ⟨by decide, by decide, by decide +kernel⟩
theorem cl_RL_59 (C : Cx p s m args meth c z cc nL RL ret nm) {a : Nat} {q0 : Int32} {rest : List Value} {post : Option Value → Hp → Prop} (hm : Ct l z yX12_drop cX12_drop 3 (some .int) 2 46 0 0 [.ref a, .int (q0)] S post) (hR : 2 + 1 ≤ R.frames ∧ 8 + (3 + 11) + 46 ≤ R.locals) (hk : kd S a = 13) (hd : decode cc pc = .ok (.invokevirtual 59, 3)) (hW : (rest.map fun v => v.category).sum ≤ 8) (k : ∀ (v : Option Value) (S' : Hp), post v S' → Go p l e R s m args below meth c z nL Q bc bs (pc + 3) lv (v.toList ++ rest) S') : Go p l e R s m args below meth c z nL Q bc bs pc lv (.int (q0) :: .ref a :: rest) S := G_callV C 12 14 rfl rfl (gt_t 979 (by decide +kernel) rfl) (gt_t 980 (by decide +kernel) rfl) (gt_t 981 (by decide +kernel) rfl) (gt_t 14 (by decide +kernel) rfl) (gt_t 982 (by decide +kernel) rfl) (dsc_X12_drop) hm rfl hR hk rfl hW hd k
theorem dsc_X11_pack : dsc yX11_pack 0 := ⟨by decide, by decide, by decide +kernel⟩
theorem cl_RL_60 (C : Cx p s m args meth c z cc nL RL ret nm) {a : Nat}  {rest : List Value} {post : Option Value → Hp → Prop} (hm : Ct l z yX11_pack cX11_pack 1 (some .int) 4 97 28 698 [.ref a] S post) (hR : 4 + 1 ≤ R.frames ∧ 8 + (1 + 11) + 97 ≤ R.locals) (hk : kd S a = 12) (hd : decode cc pc = .ok (.invokevirtual 60, 3)) (hW : (rest.map fun v => v.category).sum ≤ 8) (k : ∀ (v : Option Value) (S' : Hp), post v S' → Go p l e R s m args below meth c z nL Q bc bs (pc + 3) lv (v.toList ++ rest) S') : Go p l e R s m args below meth c z nL Q (bc + 28) (bs + 698) pc lv (.ref a :: rest) S := G_callV C 11 7 rfl rfl (gt_t 580 (by decide +kernel) rfl) (gt_t 581 (by decide +kernel) rfl) (gt_t 582 (by decide +kernel) rfl) (gt_t 1 (by decide +kernel) rfl) (gt_t 583 (by decide +kernel) rfl) (dsc_X11_pack) hm rfl hR hk rfl hW hd k
theorem dsc_X12_pack : dsc yX12_pack 0 := ⟨by decide, by decide, by decide +kernel⟩
theorem cl_RL_63 (C : Cx p s m args meth c z cc nL RL ret nm) {a : Nat}  {rest : List Value} {post : Option Value → Hp → Prop} (hm : Ct l z yX12_pack cX12_pack 4 (some .int) 4 87 0 0 [.ref a] S post) (hR : 4 + 1 ≤ R.frames ∧ 8 + (4 + 11) + 87 ≤ R.locals) (hk : kd S a = 13) (hd : decode cc pc = .ok (.invokevirtual 63, 3)) (hW : (rest.map fun v => v.category).sum ≤ 8) (k : ∀ (v : Option Value) (S' : Hp), post v S' → Go p l e R s m args below meth c z nL Q bc bs (pc + 3) lv (v.toList ++ rest) S') : Go p l e R s m args below meth c z nL Q bc bs pc lv (.ref a :: rest) S := G_callV C 12 14 rfl rfl (gt_t 983 (by decide +kernel) rfl) (gt_t 984 (by decide +kernel) rfl) (gt_t 985 (by decide +kernel) rfl) (gt_t 14 (by decide +kernel) rfl) (gt_t 986 (by decide +kernel) rfl) (dsc_X12_pack) hm rfl hR hk rfl hW hd k
theorem dsc_X11_lose : dsc yX11_lose 1 := ⟨by decide, by decide, by decide +kernel⟩
theorem cl_RL_64 (C : Cx p s m args meth c z cc nL RL ret nm) {a : Nat} {q0 : Int32} {rest : List Value} {post : Option Value → Hp → Prop} (hm : Ct l z yX11_lose cX11_lose 3 (some .int) 3 78 0 0 [.ref a, .int (q0)] S post) (hR : 3 + 1 ≤ R.frames ∧ 8 + (3 + 11) + 78 ≤ R.locals) (hk : kd S a = 12) (hd : decode cc pc = .ok (.invokevirtual 64, 3)) (hW : (rest.map fun v => v.category).sum ≤ 8) (k : ∀ (v : Option Value) (S' : Hp), post v S' → Go p l e R s m args below meth c z nL Q bc bs (pc + 3) lv (v.toList ++ rest) S') : Go p l e R s m args below meth c z nL Q bc bs pc lv (.int (q0) :: .ref a :: rest) S := G_callV C 11 7 rfl rfl (gt_t 593 (by decide +kernel) rfl) (gt_t 594 (by decide +kernel) rfl) (gt_t 595 (by decide +kernel) rfl) (gt_t 1 (by decide +kernel) rfl) (gt_t 596 (by decide +kernel) rfl) (dsc_X11_lose) hm rfl hR hk rfl hW hd k
theorem dsc_X12_lose : dsc yX12_lose 1 := ⟨by decide, by decide, by decide +kernel⟩
theorem cl_RL_67 (C : Cx p s m args meth c z cc nL RL ret nm) {a : Nat} {q0 : Int32} {rest : List Value} {post : Option Value → Hp → Prop} (hm : Ct l z yX12_lose cX12_lose 2 (some .int) 3 67 0 0 [.ref a, .int (q0)] S post) (hR : 3 + 1 ≤ R.frames ∧ 8 + (2 + 11) + 67 ≤ R.locals) (hk : kd S a = 13) (hd : decode cc pc = .ok (.invokevirtual 67, 3)) (hW : (rest.map fun v => v.category).sum ≤ 8) (k : ∀ (v : Option Value) (S' : Hp), post v S' → Go p l e R s m args below meth c z nL Q bc bs (pc + 3) lv (v.toList ++ rest) S') : Go p l e R s m args below meth c z nL Q bc bs pc lv (.int (q0) :: .ref a :: rest) S := G_callV C 12 14 rfl rfl (gt_t 1002 (by decide +kernel) rfl) (gt_t 1003 (by decide +kernel) rfl) (gt_t 1004 (by decide +kernel) rfl) (gt_t 14 (by decide +kernel) rfl) (gt_t 1005 (by decide +kernel) rfl) (dsc_X12_lose) hm rfl hR hk rfl hW hd k
theorem dsc_X11_cut : dsc yX11_cut 2 := ⟨by decide, by decide, by decide +kernel⟩
theorem cl_RL_68 (C : Cx p s m args meth c z cc nL RL ret nm) {a : Nat} {q0 : Int32} {q1 : Int32} {rest : List Value} {post : Option Value → Hp → Prop} (hm : Ct l z yX11_cut cX11_cut 5 (some .int) 3 78 0 0 [.ref a, .int (q0), .int (q1)] S post) (hR : 3 + 1 ≤ R.frames ∧ 8 + (5 + 11) + 78 ≤ R.locals) (hk : kd S a = 12) (hd : decode cc pc = .ok (.invokevirtual 68, 3)) (hW : (rest.map fun v => v.category).sum ≤ 8) (k : ∀ (v : Option Value) (S' : Hp), post v S' → Go p l e R s m args below meth c z nL Q bc bs (pc + 3) lv (v.toList ++ rest) S') : Go p l e R s m args below meth c z nL Q bc bs pc lv (.int (q1) :: .int (q0) :: .ref a :: rest) S := G_callV C 11 7 rfl rfl (gt_t 602 (by decide +kernel) rfl) (gt_t 603 (by decide +kernel) rfl) (gt_t 604 (by decide +kernel) rfl) (gt_t 1 (by decide +kernel) rfl) (gt_t 605 (by decide +kernel) rfl) (dsc_X11_cut) hm rfl hR hk rfl hW hd k
theorem dsc_X12_cut : dsc yX12_cut 2 := ⟨by decide, by decide, by decide +kernel⟩
theorem cl_RL_71 (C : Cx p s m args meth c z cc nL RL ret nm) {a : Nat} {q0 : Int32} {q1 : Int32} {rest : List Value} {post : Option Value → Hp → Prop} (hm : Ct l z yX12_cut cX12_cut 3 (some .int) 3 67 0 0 [.ref a, .int (q0), .int (q1)] S post) (hR : 3 + 1 ≤ R.frames ∧ 8 + (3 + 11) + 67 ≤ R.locals) (hk : kd S a = 13) (hd : decode cc pc = .ok (.invokevirtual 71, 3)) (hW : (rest.map fun v => v.category).sum ≤ 8) (k : ∀ (v : Option Value) (S' : Hp), post v S' → Go p l e R s m args below meth c z nL Q bc bs (pc + 3) lv (v.toList ++ rest) S') : Go p l e R s m args below meth c z nL Q bc bs pc lv (.int (q1) :: .int (q0) :: .ref a :: rest) S := G_callV C 12 14 rfl rfl (gt_t 1010 (by decide +kernel) rfl) (gt_t 1011 (by decide +kernel) rfl) (gt_t 1012 (by decide +kernel) rfl) (gt_t 14 (by decide +kernel) rfl) (gt_t 1013 (by decide +kernel) rfl) (dsc_X12_cut) hm rfl hR hk rfl hW hd k
theorem dsc_X11_spoil : dsc yX11_spoil 3 := ⟨by decide, by decide, by decide +kernel⟩
theorem cl_RL_72 (C : Cx p s m args meth c z cc nL RL ret nm) {a : Nat} {q0 : Int32} {q1 : Int32} {q2 : Int32} {rest : List Value} {post : Option Value → Hp → Prop} (hm : Ct l z yX11_spoil cX11_spoil 6 (some .int) 3 78 0 0 [.ref a, .int (q0), .int (q1), .int (q2)] S post) (hR : 3 + 1 ≤ R.frames ∧ 8 + (6 + 11) + 78 ≤ R.locals) (hk : kd S a = 12) (hd : decode cc pc = .ok (.invokevirtual 72, 3)) (hW : (rest.map fun v => v.category).sum ≤ 8) (k : ∀ (v : Option Value) (S' : Hp), post v S' → Go p l e R s m args below meth c z nL Q bc bs (pc + 3) lv (v.toList ++ rest) S') : Go p l e R s m args below meth c z nL Q bc bs pc lv (.int (q2) :: .int (q1) :: .int (q0) :: .ref a :: rest) S := G_callV C 11 7 rfl rfl (gt_t 606 (by decide +kernel) rfl) (gt_t 607 (by decide +kernel) rfl) (gt_t 608 (by decide +kernel) rfl) (gt_t 1 (by decide +kernel) rfl) (gt_t 609 (by decide +kernel) rfl) (dsc_X11_spoil) hm rfl hR hk rfl hW hd k
theorem dsc_X12_spoil : dsc yX12_spoil 3 := ⟨by decide, by decide, by decide +kernel⟩
theorem cl_RL_76 (C : Cx p s m args meth c z cc nL RL ret nm) {a : Nat} {q0 : Int32} {q1 : Int32} {q2 : Int32} {rest : List Value} {post : Option Value → Hp → Prop} (hm : Ct l z yX12_spoil cX12_spoil 4 (some .int) 3 67 0 0 [.ref a, .int (q0), .int (q1), .int (q2)] S post) (hR : 3 + 1 ≤ R.frames ∧ 8 + (4 + 11) + 67 ≤ R.locals) (hk : kd S a = 13) (hd : decode cc pc = .ok (.invokevirtual 76, 3)) (hW : (rest.map fun v => v.category).sum ≤ 8) (k : ∀ (v : Option Value) (S' : Hp), post v S' → Go p l e R s m args below meth c z nL Q bc bs (pc + 3) lv (v.toList ++ rest) S') : Go p l e R s m args below meth c z nL Q bc bs pc lv (.int (q2) :: .int (q1) :: .int (q0) :: .ref a :: rest) S := G_callV C 12 14 rfl rfl (gt_t 1014 (by decide +kernel) rfl) (gt_t 1015 (by decide +kernel) rfl) (gt_t 1016 (by decide +kernel) rfl) (gt_t 14 (by decide +kernel) rfl) (gt_t 1017 (by decide +kernel) rfl) (dsc_X12_spoil) hm rfl hR hk rfl hW hd k
theorem dsc_X11_again : dsc yX11_again 1 := ⟨by decide, by decide, by decide +kernel⟩
theorem cl_RL_77 (C : Cx p s m args meth c z cc nL RL ret nm) {a : Nat} {q0 : Int32} {rest : List Value} {post : Option Value → Hp → Prop} (hm : Ct l z yX11_again cX11_again 2 (some .int) 3 78 0 0 [.ref a, .int (q0)] S post) (hR : 3 + 1 ≤ R.frames ∧ 8 + (2 + 11) + 78 ≤ R.locals) (hk : kd S a = 12) (hd : decode cc pc = .ok (.invokevirtual 77, 3)) (hW : (rest.map fun v => v.category).sum ≤ 8) (k : ∀ (v : Option Value) (S' : Hp), post v S' → Go p l e R s m args below meth c z nL Q bc bs (pc + 3) lv (v.toList ++ rest) S') : Go p l e R s m args below meth c z nL Q bc bs pc lv (.int (q0) :: .ref a :: rest) S := G_callV C 11 7 rfl rfl (gt_t 614 (by decide +kernel) rfl) (gt_t 615 (by decide +kernel) rfl) (gt_t 616 (by decide +kernel) rfl) (gt_t 1 (by decide +kernel) rfl) (gt_t 617 (by decide +kernel) rfl) (dsc_X11_again) hm rfl hR hk rfl hW hd k
theorem dsc_X12_again : dsc yX12_again 1 := ⟨by decide, by decide, by decide +kernel⟩
theorem cl_RL_80 (C : Cx p s m args meth c z cc nL RL ret nm) {a : Nat} {q0 : Int32} {rest : List Value} {post : Option Value → Hp → Prop} (hm : Ct l z yX12_again cX12_again 5 (some .int) 2 47 0 0 [.ref a, .int (q0)] S post) (hR : 2 + 1 ≤ R.frames ∧ 8 + (5 + 11) + 47 ≤ R.locals) (hk : kd S a = 13) (hd : decode cc pc = .ok (.invokevirtual 80, 3)) (hW : (rest.map fun v => v.category).sum ≤ 8) (k : ∀ (v : Option Value) (S' : Hp), post v S' → Go p l e R s m args below meth c z nL Q bc bs (pc + 3) lv (v.toList ++ rest) S') : Go p l e R s m args below meth c z nL Q bc bs pc lv (.int (q0) :: .ref a :: rest) S := G_callV C 12 14 rfl rfl (gt_t 1023 (by decide +kernel) rfl) (gt_t 1024 (by decide +kernel) rfl) (gt_t 1025 (by decide +kernel) rfl) (gt_t 14 (by decide +kernel) rfl) (gt_t 1026 (by decide +kernel) rfl) (dsc_X12_again) hm rfl hR hk rfl hW hd k
theorem dsc_X11_undo : dsc yX11_undo 0 := ⟨by decide, by decide, by decide +kernel⟩
theorem cl_RL_81 (C : Cx p s m args meth c z cc nL RL ret nm) {a : Nat}  {rest : List Value} {post : Option Value → Hp → Prop} (hm : Ct l z yX11_undo cX11_undo 2 (some .int) 2 53 0 0 [.ref a] S post) (hR : 2 + 1 ≤ R.frames ∧ 8 + (2 + 11) + 53 ≤ R.locals) (hk : kd S a = 12) (hd : decode cc pc = .ok (.invokevirtual 81, 3)) (hW : (rest.map fun v => v.category).sum ≤ 8) (k : ∀ (v : Option Value) (S' : Hp), post v S' → Go p l e R s m args below meth c z nL Q bc bs (pc + 3) lv (v.toList ++ rest) S') : Go p l e R s m args below meth c z nL Q bc bs pc lv (.ref a :: rest) S := G_callV C 11 7 rfl rfl (gt_t 623 (by decide +kernel) rfl) (gt_t 624 (by decide +kernel) rfl) (gt_t 625 (by decide +kernel) rfl) (gt_t 1 (by decide +kernel) rfl) (gt_t 626 (by decide +kernel) rfl) (dsc_X11_undo) hm rfl hR hk rfl hW hd k
theorem dsc_X12_undo : dsc yX12_undo 0 := ⟨by decide, by decide, by decide +kernel⟩
theorem cl_RL_84 (C : Cx p s m args meth c z cc nL RL ret nm) {a : Nat}  {rest : List Value} {post : Option Value → Hp → Prop} (hm : Ct l z yX12_undo cX12_undo 1 (some .int) 1 23 0 0 [.ref a] S post) (hR : 1 + 1 ≤ R.frames ∧ 8 + (1 + 11) + 23 ≤ R.locals) (hk : kd S a = 13) (hd : decode cc pc = .ok (.invokevirtual 84, 3)) (hW : (rest.map fun v => v.category).sum ≤ 8) (k : ∀ (v : Option Value) (S' : Hp), post v S' → Go p l e R s m args below meth c z nL Q bc bs (pc + 3) lv (v.toList ++ rest) S') : Go p l e R s m args below meth c z nL Q bc bs pc lv (.ref a :: rest) S := G_callV C 12 14 rfl rfl (gt_t 1027 (by decide +kernel) rfl) (gt_t 1028 (by decide +kernel) rfl) (gt_t 1029 (by decide +kernel) rfl) (gt_t 14 (by decide +kernel) rfl) (gt_t 1030 (by decide +kernel) rfl) (dsc_X12_undo) hm rfl hR hk rfl hW hd k
theorem dsc_X11_number : dsc yX11_number 2 := ⟨by decide, by decide, by decide +kernel⟩
theorem cl_RL_85 (C : Cx p s m args meth c z cc nL RL ret nm) {a : Nat} {q0 : Int32} {q1 : Int32} {rest : List Value} {post : Option Value → Hp → Prop} (hm : Ct l z yX11_number cX11_number 4 (some .int) 2 43 0 0 [.ref a, .int (q0), .int (q1)] S post) (hR : 2 + 1 ≤ R.frames ∧ 8 + (4 + 11) + 43 ≤ R.locals) (hk : kd S a = 12) (hd : decode cc pc = .ok (.invokevirtual 85, 3)) (hW : (rest.map fun v => v.category).sum ≤ 8) (k : ∀ (v : Option Value) (S' : Hp), post v S' → Go p l e R s m args below meth c z nL Q bc bs (pc + 3) lv (v.toList ++ rest) S') : Go p l e R s m args below meth c z nL Q bc bs pc lv (.int (q1) :: .int (q0) :: .ref a :: rest) S := G_callV C 11 7 rfl rfl (gt_t 636 (by decide +kernel) rfl) (gt_t 637 (by decide +kernel) rfl) (gt_t 638 (by decide +kernel) rfl) (gt_t 1 (by decide +kernel) rfl) (gt_t 639 (by decide +kernel) rfl) (dsc_X11_number) hm rfl hR hk rfl hW hd k
theorem dsc_X12_number : dsc yX12_number 2 := ⟨by decide, by decide, by decide +kernel⟩
theorem cl_RL_88 (C : Cx p s m args meth c z cc nL RL ret nm) {a : Nat} {q0 : Int32} {q1 : Int32} {rest : List Value} {post : Option Value → Hp → Prop} (hm : Ct l z yX12_number cX12_number 3 (some .int) 2 47 0 0 [.ref a, .int (q0), .int (q1)] S post) (hR : 2 + 1 ≤ R.frames ∧ 8 + (3 + 11) + 47 ≤ R.locals) (hk : kd S a = 13) (hd : decode cc pc = .ok (.invokevirtual 88, 3)) (hW : (rest.map fun v => v.category).sum ≤ 8) (k : ∀ (v : Option Value) (S' : Hp), post v S' → Go p l e R s m args below meth c z nL Q bc bs (pc + 3) lv (v.toList ++ rest) S') : Go p l e R s m args below meth c z nL Q bc bs pc lv (.int (q1) :: .int (q0) :: .ref a :: rest) S := G_callV C 12 14 rfl rfl (gt_t 1031 (by decide +kernel) rfl) (gt_t 1032 (by decide +kernel) rfl) (gt_t 1033 (by decide +kernel) rfl) (gt_t 14 (by decide +kernel) rfl) (gt_t 1034 (by decide +kernel) rfl) (dsc_X12_number) hm rfl hR hk rfl hW hd k
theorem dsc_X11_packed : dsc yX11_packed 2 := ⟨by decide, by decide, by decide +kernel⟩
theorem cl_RL_89 (C : Cx p s m args meth c z cc nL RL ret nm) {a : Nat} {q0 : Int32} {q1 : Int32} {rest : List Value} {post : Option Value → Hp → Prop} (hm : Ct l z yX11_packed cX11_packed 3 (some .int) 5 112 0 0 [.ref a, .int (q0), .int (q1)] S post) (hR : 5 + 1 ≤ R.frames ∧ 8 + (3 + 11) + 112 ≤ R.locals) (hk : kd S a = 12) (hd : decode cc pc = .ok (.invokevirtual 89, 3)) (hW : (rest.map fun v => v.category).sum ≤ 8) (k : ∀ (v : Option Value) (S' : Hp), post v S' → Go p l e R s m args below meth c z nL Q bc bs (pc + 3) lv (v.toList ++ rest) S') : Go p l e R s m args below meth c z nL Q bc bs pc lv (.int (q1) :: .int (q0) :: .ref a :: rest) S := G_callV C 11 7 rfl rfl (gt_t 640 (by decide +kernel) rfl) (gt_t 641 (by decide +kernel) rfl) (gt_t 642 (by decide +kernel) rfl) (gt_t 1 (by decide +kernel) rfl) (gt_t 643 (by decide +kernel) rfl) (dsc_X11_packed) hm rfl hR hk rfl hW hd k
theorem dsc_X12_packed : dsc yX12_packed 2 := ⟨by decide, by decide, by decide +kernel⟩
theorem cl_RL_92 (C : Cx p s m args meth c z cc nL RL ret nm) {a : Nat} {q0 : Int32} {q1 : Int32} {rest : List Value} {post : Option Value → Hp → Prop} (hm : Ct l z yX12_packed cX12_packed 3 (some .int) 5 120 0 0 [.ref a, .int (q0), .int (q1)] S post) (hR : 5 + 1 ≤ R.frames ∧ 8 + (3 + 11) + 120 ≤ R.locals) (hk : kd S a = 13) (hd : decode cc pc = .ok (.invokevirtual 92, 3)) (hW : (rest.map fun v => v.category).sum ≤ 8) (k : ∀ (v : Option Value) (S' : Hp), post v S' → Go p l e R s m args below meth c z nL Q bc bs (pc + 3) lv (v.toList ++ rest) S') : Go p l e R s m args below meth c z nL Q bc bs pc lv (.int (q1) :: .int (q0) :: .ref a :: rest) S := G_callV C 12 14 rfl rfl (gt_t 1035 (by decide +kernel) rfl) (gt_t 1036 (by decide +kernel) rfl) (gt_t 1037 (by decide +kernel) rfl) (gt_t 14 (by decide +kernel) rfl) (gt_t 1038 (by decide +kernel) rfl) (dsc_X12_packed) hm rfl hR hk rfl hW hd k
theorem dsc_X11_read : dsc yX11_read 2 := ⟨by decide, by decide, by decide +kernel⟩
theorem cl_RL_93 (C : Cx p s m args meth c z cc nL RL ret nm) {a : Nat} {q0 : Int32} {q1 : Int32} {rest : List Value} {post : Option Value → Hp → Prop} (hm : Ct l z yX11_read cX11_read 3 (some .int) 4 88 0 0 [.ref a, .int (q0), .int (q1)] S post) (hR : 4 + 1 ≤ R.frames ∧ 8 + (3 + 11) + 88 ≤ R.locals) (hk : kd S a = 12) (hd : decode cc pc = .ok (.invokevirtual 93, 3)) (hW : (rest.map fun v => v.category).sum ≤ 8) (k : ∀ (v : Option Value) (S' : Hp), post v S' → Go p l e R s m args below meth c z nL Q bc bs (pc + 3) lv (v.toList ++ rest) S') : Go p l e R s m args below meth c z nL Q bc bs pc lv (.int (q1) :: .int (q0) :: .ref a :: rest) S := G_callV C 11 7 rfl rfl (gt_t 713 (by decide +kernel) rfl) (gt_t 714 (by decide +kernel) rfl) (gt_t 715 (by decide +kernel) rfl) (gt_t 1 (by decide +kernel) rfl) (gt_t 716 (by decide +kernel) rfl) (dsc_X11_read) hm rfl hR hk rfl hW hd k
theorem dsc_X12_read : dsc yX12_read 2 := ⟨by decide, by decide, by decide +kernel⟩
theorem cl_RL_96 (C : Cx p s m args meth c z cc nL RL ret nm) {a : Nat} {q0 : Int32} {q1 : Int32} {rest : List Value} {post : Option Value → Hp → Prop} (hm : Ct l z yX12_read cX12_read 6 (some .int) 3 74 0 0 [.ref a, .int (q0), .int (q1)] S post) (hR : 3 + 1 ≤ R.frames ∧ 8 + (6 + 11) + 74 ≤ R.locals) (hk : kd S a = 13) (hd : decode cc pc = .ok (.invokevirtual 96, 3)) (hW : (rest.map fun v => v.category).sum ≤ 8) (k : ∀ (v : Option Value) (S' : Hp), post v S' → Go p l e R s m args below meth c z nL Q bc bs (pc + 3) lv (v.toList ++ rest) S') : Go p l e R s m args below meth c z nL Q bc bs pc lv (.int (q1) :: .int (q0) :: .ref a :: rest) S := G_callV C 12 14 rfl rfl (gt_t 1096 (by decide +kernel) rfl) (gt_t 1097 (by decide +kernel) rfl) (gt_t 1098 (by decide +kernel) rfl) (gt_t 14 (by decide +kernel) rfl) (gt_t 1099 (by decide +kernel) rfl) (dsc_X12_read) hm rfl hR hk rfl hW hd k
theorem dsc_X11_mended : dsc yX11_mended 2 := ⟨by decide, by decide, by decide +kernel⟩
theorem cl_RL_97 (C : Cx p s m args meth c z cc nL RL ret nm) {a : Nat} {q0 : Int32} {q1 : Int32} {rest : List Value} {post : Option Value → Hp → Prop} (hm : Ct l z yX11_mended cX11_mended 3 (some .int) 4 92 0 0 [.ref a, .int (q0), .int (q1)] S post) (hR : 4 + 1 ≤ R.frames ∧ 8 + (3 + 11) + 92 ≤ R.locals) (hk : kd S a = 12) (hd : decode cc pc = .ok (.invokevirtual 97, 3)) (hW : (rest.map fun v => v.category).sum ≤ 8) (k : ∀ (v : Option Value) (S' : Hp), post v S' → Go p l e R s m args below meth c z nL Q bc bs (pc + 3) lv (v.toList ++ rest) S') : Go p l e R s m args below meth c z nL Q bc bs pc lv (.int (q1) :: .int (q0) :: .ref a :: rest) S := G_callV C 11 7 rfl rfl (gt_t 733 (by decide +kernel) rfl) (gt_t 734 (by decide +kernel) rfl) (gt_t 735 (by decide +kernel) rfl) (gt_t 1 (by decide +kernel) rfl) (gt_t 736 (by decide +kernel) rfl) (dsc_X11_mended) hm rfl hR hk rfl hW hd k
theorem dsc_X12_mended : dsc yX12_mended 2 := ⟨by decide, by decide, by decide +kernel⟩
theorem cl_RL_100 (C : Cx p s m args meth c z cc nL RL ret nm) {a : Nat} {q0 : Int32} {q1 : Int32} {rest : List Value} {post : Option Value → Hp → Prop} (hm : Ct l z yX12_mended cX12_mended 5 (some .int) 4 99 0 0 [.ref a, .int (q0), .int (q1)] S post) (hR : 4 + 1 ≤ R.frames ∧ 8 + (5 + 11) + 99 ≤ R.locals) (hk : kd S a = 13) (hd : decode cc pc = .ok (.invokevirtual 100, 3)) (hW : (rest.map fun v => v.category).sum ≤ 8) (k : ∀ (v : Option Value) (S' : Hp), post v S' → Go p l e R s m args below meth c z nL Q bc bs (pc + 3) lv (v.toList ++ rest) S') : Go p l e R s m args below meth c z nL Q bc bs pc lv (.int (q1) :: .int (q0) :: .ref a :: rest) S := G_callV C 12 14 rfl rfl (gt_t 1100 (by decide +kernel) rfl) (gt_t 1101 (by decide +kernel) rfl) (gt_t 1102 (by decide +kernel) rfl) (gt_t 14 (by decide +kernel) rfl) (gt_t 1103 (by decide +kernel) rfl) (dsc_X12_mended) hm rfl hR hk rfl hW hd k
theorem dsc_X11_blamed : dsc yX11_blamed 1 := ⟨by decide, by decide, by decide +kernel⟩
theorem cl_RL_101 (C : Cx p s m args meth c z cc nL RL ret nm) {a : Nat} {q0 : Int32} {rest : List Value} {post : Option Value → Hp → Prop} (hm : Ct l z yX11_blamed cX11_blamed 2 (some .int) 6 142 0 0 [.ref a, .int (q0)] S post) (hR : 6 + 1 ≤ R.frames ∧ 8 + (2 + 11) + 142 ≤ R.locals) (hk : kd S a = 12) (hd : decode cc pc = .ok (.invokevirtual 101, 3)) (hW : (rest.map fun v => v.category).sum ≤ 8) (k : ∀ (v : Option Value) (S' : Hp), post v S' → Go p l e R s m args below meth c z nL Q bc bs (pc + 3) lv (v.toList ++ rest) S') : Go p l e R s m args below meth c z nL Q bc bs pc lv (.int (q0) :: .ref a :: rest) S := G_callV C 11 7 rfl rfl (gt_t 743 (by decide +kernel) rfl) (gt_t 744 (by decide +kernel) rfl) (gt_t 745 (by decide +kernel) rfl) (gt_t 1 (by decide +kernel) rfl) (gt_t 746 (by decide +kernel) rfl) (dsc_X11_blamed) hm rfl hR hk rfl hW hd k
theorem dsc_X12_blamed : dsc yX12_blamed 1 := ⟨by decide, by decide, by decide +kernel⟩
theorem cl_RL_104 (C : Cx p s m args meth c z cc nL RL ret nm) {a : Nat} {q0 : Int32} {rest : List Value} {post : Option Value → Hp → Prop} (hm : Ct l z yX12_blamed cX12_blamed 7 (some .int) 4 99 0 0 [.ref a, .int (q0)] S post) (hR : 4 + 1 ≤ R.frames ∧ 8 + (7 + 11) + 99 ≤ R.locals) (hk : kd S a = 13) (hd : decode cc pc = .ok (.invokevirtual 104, 3)) (hW : (rest.map fun v => v.category).sum ≤ 8) (k : ∀ (v : Option Value) (S' : Hp), post v S' → Go p l e R s m args below meth c z nL Q bc bs (pc + 3) lv (v.toList ++ rest) S') : Go p l e R s m args below meth c z nL Q bc bs pc lv (.int (q0) :: .ref a :: rest) S := G_callV C 12 14 rfl rfl (gt_t 1108 (by decide +kernel) rfl) (gt_t 1109 (by decide +kernel) rfl) (gt_t 1110 (by decide +kernel) rfl) (gt_t 14 (by decide +kernel) rfl) (gt_t 1111 (by decide +kernel) rfl) (dsc_X12_blamed) hm rfl hR hk rfl hW hd k
theorem dsc_X11_opened : dsc yX11_opened 1 := ⟨by decide, by decide, by decide +kernel⟩
theorem cl_RL_105 (C : Cx p s m args meth c z cc nL RL ret nm) {a : Nat} {q0 : Int32} {rest : List Value} {post : Option Value → Hp → Prop} (hm : Ct l z yX11_opened cX11_opened 2 (some .int) 1 23 0 0 [.ref a, .int (q0)] S post) (hR : 1 + 1 ≤ R.frames ∧ 8 + (2 + 11) + 23 ≤ R.locals) (hk : kd S a = 12) (hd : decode cc pc = .ok (.invokevirtual 105, 3)) (hW : (rest.map fun v => v.category).sum ≤ 8) (k : ∀ (v : Option Value) (S' : Hp), post v S' → Go p l e R s m args below meth c z nL Q bc bs (pc + 3) lv (v.toList ++ rest) S') : Go p l e R s m args below meth c z nL Q bc bs pc lv (.int (q0) :: .ref a :: rest) S := G_callV C 11 7 rfl rfl (gt_t 760 (by decide +kernel) rfl) (gt_t 761 (by decide +kernel) rfl) (gt_t 762 (by decide +kernel) rfl) (gt_t 1 (by decide +kernel) rfl) (gt_t 763 (by decide +kernel) rfl) (dsc_X11_opened) hm rfl hR hk rfl hW hd k
theorem dsc_X12_opened : dsc yX12_opened 1 := ⟨by decide, by decide, by decide +kernel⟩
theorem cl_RL_108 (C : Cx p s m args meth c z cc nL RL ret nm) {a : Nat} {q0 : Int32} {rest : List Value} {post : Option Value → Hp → Prop} (hm : Ct l z yX12_opened cX12_opened 4 (some .int) 1 25 0 0 [.ref a, .int (q0)] S post) (hR : 1 + 1 ≤ R.frames ∧ 8 + (4 + 11) + 25 ≤ R.locals) (hk : kd S a = 13) (hd : decode cc pc = .ok (.invokevirtual 108, 3)) (hW : (rest.map fun v => v.category).sum ≤ 8) (k : ∀ (v : Option Value) (S' : Hp), post v S' → Go p l e R s m args below meth c z nL Q bc bs (pc + 3) lv (v.toList ++ rest) S') : Go p l e R s m args below meth c z nL Q bc bs pc lv (.int (q0) :: .ref a :: rest) S := G_callV C 12 14 rfl rfl (gt_t 1112 (by decide +kernel) rfl) (gt_t 1113 (by decide +kernel) rfl) (gt_t 1114 (by decide +kernel) rfl) (gt_t 14 (by decide +kernel) rfl) (gt_t 1115 (by decide +kernel) rfl) (dsc_X12_opened) hm rfl hR hk rfl hW hd k
theorem dsc_X11_plan : dsc yX11_plan 1 := ⟨by decide, by decide, by decide +kernel⟩
theorem cl_RL_109 (C : Cx p s m args meth c z cc nL RL ret nm) {a : Nat} {q0 : Int32} {rest : List Value} {post : Option Value → Hp → Prop} (hm : Ct l z yX11_plan cX11_plan 2 (some .int) 4 95 0 0 [.ref a, .int (q0)] S post) (hR : 4 + 1 ≤ R.frames ∧ 8 + (2 + 11) + 95 ≤ R.locals) (hk : kd S a = 12) (hd : decode cc pc = .ok (.invokevirtual 109, 3)) (hW : (rest.map fun v => v.category).sum ≤ 8) (k : ∀ (v : Option Value) (S' : Hp), post v S' → Go p l e R s m args below meth c z nL Q bc bs (pc + 3) lv (v.toList ++ rest) S') : Go p l e R s m args below meth c z nL Q bc bs pc lv (.int (q0) :: .ref a :: rest) S := G_callV C 11 7 rfl rfl (gt_t 768 (by decide +kernel) rfl) (gt_t 769 (by decide +kernel) rfl) (gt_t 770 (by decide +kernel) rfl) (gt_t 1 (by decide +kernel) rfl) (gt_t 771 (by decide +kernel) rfl) (dsc_X11_plan) hm rfl hR hk rfl hW hd k
theorem dsc_X12_plan : dsc yX12_plan 1 := ⟨by decide, by decide, by decide +kernel⟩
theorem cl_RL_112 (C : Cx p s m args meth c z cc nL RL ret nm) {a : Nat} {q0 : Int32} {rest : List Value} {post : Option Value → Hp → Prop} (hm : Ct l z yX12_plan cX12_plan 5 (some .int) 3 70 0 0 [.ref a, .int (q0)] S post) (hR : 3 + 1 ≤ R.frames ∧ 8 + (5 + 11) + 70 ≤ R.locals) (hk : kd S a = 13) (hd : decode cc pc = .ok (.invokevirtual 112, 3)) (hW : (rest.map fun v => v.category).sum ≤ 8) (k : ∀ (v : Option Value) (S' : Hp), post v S' → Go p l e R s m args below meth c z nL Q bc bs (pc + 3) lv (v.toList ++ rest) S') : Go p l e R s m args below meth c z nL Q bc bs pc lv (.int (q0) :: .ref a :: rest) S := G_callV C 12 14 rfl rfl (gt_t 1116 (by decide +kernel) rfl) (gt_t 1117 (by decide +kernel) rfl) (gt_t 1118 (by decide +kernel) rfl) (gt_t 14 (by decide +kernel) rfl) (gt_t 1119 (by decide +kernel) rfl) (dsc_X12_plan) hm rfl hR hk rfl hW hd k
theorem dsc_X11_lesser : dsc yX11_lesser 1 := ⟨by decide, by decide, by decide +kernel⟩
theorem cl_RL_113 (C : Cx p s m args meth c z cc nL RL ret nm) {a : Nat} {q0 : Int32} {rest : List Value} {post : Option Value → Hp → Prop} (hm : Ct l z yX11_lesser cX11_lesser 2 (some .int) 4 91 0 0 [.ref a, .int (q0)] S post) (hR : 4 + 1 ≤ R.frames ∧ 8 + (2 + 11) + 91 ≤ R.locals) (hk : kd S a = 12) (hd : decode cc pc = .ok (.invokevirtual 113, 3)) (hW : (rest.map fun v => v.category).sum ≤ 8) (k : ∀ (v : Option Value) (S' : Hp), post v S' → Go p l e R s m args below meth c z nL Q bc bs (pc + 3) lv (v.toList ++ rest) S') : Go p l e R s m args below meth c z nL Q bc bs pc lv (.int (q0) :: .ref a :: rest) S := G_callV C 11 7 rfl rfl (gt_t 792 (by decide +kernel) rfl) (gt_t 793 (by decide +kernel) rfl) (gt_t 794 (by decide +kernel) rfl) (gt_t 1 (by decide +kernel) rfl) (gt_t 795 (by decide +kernel) rfl) (dsc_X11_lesser) hm rfl hR hk rfl hW hd k
theorem dsc_X12_lesser : dsc yX12_lesser 1 := ⟨by decide, by decide, by decide +kernel⟩
theorem cl_RL_116 (C : Cx p s m args meth c z cc nL RL ret nm) {a : Nat} {q0 : Int32} {rest : List Value} {post : Option Value → Hp → Prop} (hm : Ct l z yX12_lesser cX12_lesser 7 (some .int) 3 65 0 0 [.ref a, .int (q0)] S post) (hR : 3 + 1 ≤ R.frames ∧ 8 + (7 + 11) + 65 ≤ R.locals) (hk : kd S a = 13) (hd : decode cc pc = .ok (.invokevirtual 116, 3)) (hW : (rest.map fun v => v.category).sum ≤ 8) (k : ∀ (v : Option Value) (S' : Hp), post v S' → Go p l e R s m args below meth c z nL Q bc bs (pc + 3) lv (v.toList ++ rest) S') : Go p l e R s m args below meth c z nL Q bc bs pc lv (.int (q0) :: .ref a :: rest) S := G_callV C 12 14 rfl rfl (gt_t 1129 (by decide +kernel) rfl) (gt_t 1130 (by decide +kernel) rfl) (gt_t 1131 (by decide +kernel) rfl) (gt_t 14 (by decide +kernel) rfl) (gt_t 1132 (by decide +kernel) rfl) (dsc_X12_lesser) hm rfl hR hk rfl hW hd k
theorem dsc_X11_count : dsc yX11_count 1 := ⟨by decide, by decide, by decide +kernel⟩
theorem cl_RL_117 (C : Cx p s m args meth c z cc nL RL ret nm) {a : Nat} {q0 : Int32} {rest : List Value} {post : Option Value → Hp → Prop} (hm : Ct l z yX11_count cX11_count 2 (some .int) 6 136 0 0 [.ref a, .int (q0)] S post) (hR : 6 + 1 ≤ R.frames ∧ 8 + (2 + 11) + 136 ≤ R.locals) (hk : kd S a = 12) (hd : decode cc pc = .ok (.invokevirtual 117, 3)) (hW : (rest.map fun v => v.category).sum ≤ 8) (k : ∀ (v : Option Value) (S' : Hp), post v S' → Go p l e R s m args below meth c z nL Q bc bs (pc + 3) lv (v.toList ++ rest) S') : Go p l e R s m args below meth c z nL Q bc bs pc lv (.int (q0) :: .ref a :: rest) S := G_callV C 11 7 rfl rfl (gt_t 804 (by decide +kernel) rfl) (gt_t 805 (by decide +kernel) rfl) (gt_t 806 (by decide +kernel) rfl) (gt_t 1 (by decide +kernel) rfl) (gt_t 807 (by decide +kernel) rfl) (dsc_X11_count) hm rfl hR hk rfl hW hd k
theorem dsc_X12_count : dsc yX12_count 1 := ⟨by decide, by decide, by decide +kernel⟩
theorem cl_RL_120 (C : Cx p s m args meth c z cc nL RL ret nm) {a : Nat} {q0 : Int32} {rest : List Value} {post : Option Value → Hp → Prop} (hm : Ct l z yX12_count cX12_count 2 (some .int) 6 143 0 0 [.ref a, .int (q0)] S post) (hR : 6 + 1 ≤ R.frames ∧ 8 + (2 + 11) + 143 ≤ R.locals) (hk : kd S a = 13) (hd : decode cc pc = .ok (.invokevirtual 120, 3)) (hW : (rest.map fun v => v.category).sum ≤ 8) (k : ∀ (v : Option Value) (S' : Hp), post v S' → Go p l e R s m args below meth c z nL Q bc bs (pc + 3) lv (v.toList ++ rest) S') : Go p l e R s m args below meth c z nL Q bc bs pc lv (.int (q0) :: .ref a :: rest) S := G_callV C 12 14 rfl rfl (gt_t 1133 (by decide +kernel) rfl) (gt_t 1134 (by decide +kernel) rfl) (gt_t 1135 (by decide +kernel) rfl) (gt_t 14 (by decide +kernel) rfl) (gt_t 1136 (by decide +kernel) rfl) (dsc_X12_count) hm rfl hR hk rfl hW hd k
theorem nw_RL_7 (C : Cx p s m args meth c z cc nL RL ret nm) (hd : decode cc pc = .ok (.new 7, 3)) (k : Go p l e R s m args below meth c z nL Q bc bs (pc + 3) lv (.ref (sz S) :: st) (nw S 12 0)) : Go p l e R s m args below meth c z nL Q (bc + 1) (bs + 7) pc lv st S := G_new C 11 7 rfl rfl in_X11 tyX11 tyX11_ok (by decide) (gt_t 21 (by decide +kernel) rfl) (gt_t 22 (by decide +kernel) rfl) (gt_t 1 (by decide +kernel) rfl) hd k
theorem nw_RL_10 (C : Cx p s m args meth c z cc nL RL ret nm) (hd : decode cc pc = .ok (.new 10, 3)) (k : Go p l e R s m args below meth c z nL Q bc bs (pc + 3) lv (.ref (sz S) :: st) (nw S 13 0)) : Go p l e R s m args below meth c z nL Q (bc + 1) (bs + 14) pc lv st S := G_new C 12 14 rfl rfl in_X12 tyX12 tyX12_ok (by decide) (gt_t 822 (by decide +kernel) rfl) (gt_t 823 (by decide +kernel) rfl) (gt_t 14 (by decide +kernel) rfl) hd k
end LAWAUX
def R_law : String := "FirstPartsLaw"
def lw_P (b : Addr) (xs : List Int32) (args : Array Value) (s : State) : Prop := args = #[.ref b] ∧ s.IntsAt b xs ∧ xs.length ≤ 2048 ∧ (Jvm.Cond.and given_1 narrow_1).before args s = true
def lw_Q (_ : Array Value) (s : State) (o : Outcome) (t : State) : Prop := o = .returned (some (.int 1)) ∧ Framed s o t [] 600000 7302250
def lw_Z (below : List Frame) (a : Array Value) (s : State) : State → Prop := fun t => ∃ o, t.status = .running ∧ Ended t below o ∧ lw_Q a s o t
/-- the law's own end, with 1 on the stack, nothing written that was there before, its room as the claim has it -/
theorem lw_ret {p : Program} {l : Launch} {e : Env} {s : State} {m : MethodId} {below : List Frame} {meth : Method} {c : Code} {b : Nat} (hx : p.tables.exec = Jvm.exec) (hb : c.code = code) (hr : meth.sig.returnType = ret) (hlocks : meth.locks = false) {pc : Nat} {H : Heap} {ls : Array Slot} (hdg : decode code pc = .ok (.ireturn, 1)) : W p l e room_1 s m #[Value.ref b] below meth c H [] 600000 7302250 (lw_Z below #[Value.ref b] s) (F0 m pc ls [.int 1]) := by
  intro T hT X
  obtain ⟨fs, hret, hrun, hended, hW, hframe⟩ := X.leave (v := some (.int 1)) (hlocks := hlocks) (fun h => by rw [hr] at h; cases h)
  have hmeth' : T.vm.method? m = some meth := X.method'
  refine ⟨T.setFrames fs, ?_, .returned (some (.int 1)), hrun, hended, rfl, ⟨_, rfl⟩, hW, hframe⟩
  jvm_step X.here [X.here.top, hx, hb, hdg, hmeth', hr, ret, narrow_b1]
  (try refine ⟨rfl, ?_⟩); (try refine ⟨rfl, ?_⟩)
  first | (intro acts; rw [hret _ acts rfl rfl rfl]) | rw [hret _ _ rfl rfl rfl]
  exact Steps.refl _
/-- what holds at the law's entry: the machine, the code, the tables' words (any of lw_tbl by 'hts w (by decide +kernel)'), the script of L ints xs at the cell b, what the Statement gives of the start (any of its parts by flat_of_before) -/
def lw_At (p : Program) (s : State) (m : MethodId) (meth : Method) (c : Code) (b L : Nat) (xs : Nat → Int32) : Prop :=
  p.tables.exec = Jvm.exec ∧ c.code = code ∧ meth.sig.returnType = ret ∧ c.maxLocals = 4 ∧ s.vm.findClass R_law = some m.cls ∧ (∀ w ∈ lw_tbl, w.before #[Value.ref b] s = true) ∧ va_X b L xs s s.heap ∧ b < s.heap.size ∧ meth.locks = false ∧ (Jvm.Cond.and given_1 narrow_1).before #[Value.ref b] s = true
section LAWRULES
variable {p : Program} {l : Launch} {e : Env} {R : Room} {s : State} {m : MethodId} {args : Array Value} {below : List Frame} {meth : Method} {c : Code} {z : Zt} {cc : ByteArray} {nL : Nat} {ow : String} {rt : Option FieldType} {nm : String} {Q : State → Prop} {bc bs pc : Nat} {lv : List (Nat × Value)} {st : List Value} {S : Hp} {b L : Nat} {xs : Nat → Int32}
theorem law_out (hz : zb z = s.heap.size) (h : b < s.heap.size) : ¬ own z b := by
  unfold own
  omega
theorem G_sld (C : Cx p s m args meth c z cc nL ow rt nm) (hX : va_X b L xs s s.heap ∧ b < s.heap.size) (hz : zb z = s.heap.size) {i : Int32} (hi : vp_in i L) (hd : decode cc pc = .ok (.iaload, 1)) (k : Go p l e R s m args below meth c z nL Q bc bs (pc + 1) lv (.int (xs i.toNatClampNeg) :: st) S) : Go p l e R s m args below meth c z nL Q bc bs pc lv (.int i :: .ref b :: st) S := fun H locs ls cells slots hl hP hS g1 g2 =>
  va_sld C.1 C.2.1 hX.1 hX.2 (law_out hz hX.2) hS hi hd (k H locs ls cells slots hl hP hS g1 g2)
theorem G_slen (C : Cx p s m args meth c z cc nL ow rt nm) (hX : va_X b L xs s s.heap ∧ b < s.heap.size) (hz : zb z = s.heap.size) (hd : decode cc pc = .ok (.arraylength, 1)) (k : Go p l e R s m args below meth c z nL Q bc bs (pc + 1) lv (.int (Int32.ofNat L) :: st) S) : Go p l e R s m args below meth c z nL Q bc bs pc lv (.ref b :: st) S := fun H locs ls cells slots hl hP hS g1 g2 =>
  va_slen C.1 C.2.1 hX.1 hX.2 (law_out hz hX.2) hS hd (k H locs ls cells slots hl hP hS g1 g2)
theorem G_lret (C : Cx p s m #[Value.ref b] meth c z code 4 ow ret nm) (hz : zb z = s.heap.size) (hd : decode code pc = .ok (.ireturn, 1)) : Go p l e room_1 s m #[Value.ref b] below meth c z 4 (lw_Z below #[Value.ref b] s) bc bs pc lv [.int 1] S := fun H locs ls cells slots hl hP hS h1 h2 => by
  have r1 : room_1.cells = 600000 := rfl
  have r2 : room_1.slots = 7302250 := rfl
  rw [r1] at h1
  rw [r2] at h2
  refine va_forget (fun q hq => ?_) ?_
  · have h := hS.2.2 q hq
    unfold own at h
    omega
  · refine W.widen (k := 600000) (n := 7302250) (by omega) (by omega) ?_
    exact lw_ret C.1 C.2.1 C.2.2.2.2.2.2.2.2.1 C.2.2.2.2.2.2.2.1 hd
end LAWRULES

section LAWW
variable {p : Program} {l : Launch} {e : Env} {s : State} {m : MethodId} {below : List Frame} {meth : Method} {c : Code} {z : Zt} {b : Nat}
abbrev wp_L_law_810 (K18 : Int32 → Hp → Nat → Nat → Prop) (Q : Nat × (Nat → Int32)) (v1 : Nat) (v2 : Nat) (v3 : Int32) (S : Hp) (bc bs : Nat) : Prop :=
  ∀ e14 : Int32, e14 = (v3 + 4) → K18 (e14) (S) (bc) (bs)
abbrev wb_L_law_18  (K18 : Int32 → Hp → Nat → Nat → Prop) (Q : Nat × (Nat → Int32)) (v1 : Nat) (v2 : Nat) (v3 : Int32) (S : Hp) (bc bs : Nat) : Prop :=
  ((((Int32.ofNat Q.1) - (4 : Int32)) < v3 → (1 : Int32) = 1) ∧ (¬ ((Int32.ofNat Q.1) - (4 : Int32)) < v3 → vp_in v3 Q.1 ∧ ∀ e9 : Int32, e9 = ((Q.2 (v3).toNatClampNeg) &&& (31 : Int32)) → ((e9 = 0 → vp_in (v3 + (1 : Int32)) Q.1 ∧ kd S v1 = 12 ∧ wp_X11_write (v1) ((Q.2 ((v3 + (1 : Int32))).toNatClampNeg)) S (fun e10 S11 => vp_in (v3 + (1 : Int32)) Q.1 ∧ kd S11 v2 = 13 ∧ wp_X12_write (v2) ((Q.2 ((v3 + (1 : Int32))).toNatClampNeg)) S11 (fun e12 S13 => ((e10 = e12 → wp_L_law_810 K18 Q (v1) (v2) (v3) (S13) (bc) (bs)) ∧ (¬ e10 = e12 → (0 : Int32) = 1))))) ∧ (¬ e9 = 0 → ((e9 = 1 → kd S v1 = 12 ∧ wp_X11_erase (v1) S (fun e15 S16 => kd S16 v2 = 13 ∧ wp_X12_erase (v2) S16 (fun e17 S18 => ((e15 = e17 → wp_L_law_810 K18 Q (v1) (v2) (v3) (S18) (bc) (bs)) ∧ (¬ e15 = e17 → (0 : Int32) = 1))))) ∧ (¬ e9 = 1 → ((e9 = 2 → kd S v1 = 12 ∧ wp_X11_fault (v1) S (fun e19 S20 => kd S20 v2 = 13 ∧ wp_X12_fault (v2) S20 (fun e21 S22 => ((e19 = e21 → wp_L_law_810 K18 Q (v1) (v2) (v3) (S22) (bc) (bs)) ∧ (¬ e19 = e21 → (0 : Int32) = 1))))) ∧ (¬ e9 = 2 → ((e9 = 3 → kd S v1 = 12 ∧ 48 ≤ bc ∧ 360 ≤ bs ∧ wp_X11_tell (v1) S (fun e23 S24 => kd S24 v2 = 13 ∧ wp_X12_tell (v2) S24 (fun e25 S26 => ((e23 = e25 → wp_L_law_810 K18 Q (v1) (v2) (v3) (S26) ((bc - 48)) ((bs - 360))) ∧ (¬ e23 = e25 → (0 : Int32) = 1))))) ∧ (¬ e9 = 3 → ((e9 = 4 → vp_in (v3 + (1 : Int32)) Q.1 ∧ vp_in (v3 + (2 : Int32)) Q.1 ∧ kd S v1 = 12 ∧ wp_X11_part (v1) ((Q.2 ((v3 + (1 : Int32))).toNatClampNeg)) ((Q.2 ((v3 + (2 : Int32))).toNatClampNeg)) S (fun e27 => vp_in (v3 + (1 : Int32)) Q.1 ∧ vp_in (v3 + (2 : Int32)) Q.1 ∧ kd S v2 = 13 ∧ wp_X12_part (v2) ((Q.2 ((v3 + (1 : Int32))).toNatClampNeg)) ((Q.2 ((v3 + (2 : Int32))).toNatClampNeg)) S (fun e29 => ((e27 = e29 → wp_L_law_810 K18 Q (v1) (v2) (v3) (S) (bc) (bs)) ∧ (¬ e27 = e29 → (0 : Int32) = 1))))) ∧ (¬ e9 = 4 → ((e9 = 5 → vp_in (v3 + (1 : Int32)) Q.1 ∧ vp_in (v3 + (2 : Int32)) Q.1 ∧ kd S v1 = 12 ∧ wp_X11_letter (v1) ((Q.2 ((v3 + (1 : Int32))).toNatClampNeg)) ((Q.2 ((v3 + (2 : Int32))).toNatClampNeg)) S (fun e31 => vp_in (v3 + (1 : Int32)) Q.1 ∧ vp_in (v3 + (2 : Int32)) Q.1 ∧ kd S v2 = 13 ∧ wp_X12_letter (v2) ((Q.2 ((v3 + (1 : Int32))).toNatClampNeg)) ((Q.2 ((v3 + (2 : Int32))).toNatClampNeg)) S (fun e33 => ((e31 = e33 → wp_L_law_810 K18 Q (v1) (v2) (v3) (S) (bc) (bs)) ∧ (¬ e31 = e33 → (0 : Int32) = 1))))) ∧ (¬ e9 = 5 → ((e9 = 6 → vp_in (v3 + (1 : Int32)) Q.1 ∧ kd S v1 = 12 ∧ wp_X11_packets (v1) ((Q.2 ((v3 + (1 : Int32))).toNatClampNeg)) S (fun e35 S36 => vp_in (v3 + (1 : Int32)) Q.1 ∧ kd S36 v2 = 13 ∧ wp_X12_packets (v2) ((Q.2 ((v3 + (1 : Int32))).toNatClampNeg)) S36 (fun e37 S38 => ((e35 = e37 → wp_L_law_810 K18 Q (v1) (v2) (v3) (S38) (bc) (bs)) ∧ (¬ e35 = e37 → (0 : Int32) = 1))))) ∧ (¬ e9 = 6 → ((e9 = 7 → vp_in (v3 + (1 : Int32)) Q.1 ∧ kd S v1 = 12 ∧ wp_X11_room (v1) ((Q.2 ((v3 + (1 : Int32))).toNatClampNeg)) S (fun e39 S40 => vp_in (v3 + (1 : Int32)) Q.1 ∧ kd S40 v2 = 13 ∧ wp_X12_room (v2) ((Q.2 ((v3 + (1 : Int32))).toNatClampNeg)) S40 (fun e41 S42 => ((e39 = e41 → wp_L_law_810 K18 Q (v1) (v2) (v3) (S42) (bc) (bs)) ∧ (¬ e39 = e41 → (0 : Int32) = 1))))) ∧ (¬ e9 = 7 → ((e9 = 8 → vp_in (v3 + (1 : Int32)) Q.1 ∧ vp_in (v3 + (2 : Int32)) Q.1 ∧ kd S v1 = 12 ∧ 1 ≤ bc ∧ 3 ≤ bs ∧ wp_X11_need (v1) ((Q.2 ((v3 + (1 : Int32))).toNatClampNeg)) ((Q.2 ((v3 + (2 : Int32))).toNatClampNeg)) S (fun e43 S44 => vp_in (v3 + (1 : Int32)) Q.1 ∧ vp_in (v3 + (2 : Int32)) Q.1 ∧ kd S44 v2 = 13 ∧ wp_X12_need (v2) ((Q.2 ((v3 + (1 : Int32))).toNatClampNeg)) ((Q.2 ((v3 + (2 : Int32))).toNatClampNeg)) S44 (fun e45 S46 => ((e43 = e45 → wp_L_law_810 K18 Q (v1) (v2) (v3) (S46) ((bc - 1)) ((bs - 3))) ∧ (¬ e43 = e45 → (0 : Int32) = 1))))) ∧ (¬ e9 = 8 → ((e9 = 9 → vp_in (v3 + (1 : Int32)) Q.1 ∧ vp_in (v3 + (2 : Int32)) Q.1 ∧ kd S v1 = 12 ∧ 1 ≤ bc ∧ 3 ≤ bs ∧ wp_X11_weigh (v1) ((Q.2 ((v3 + (1 : Int32))).toNatClampNeg)) ((Q.2 ((v3 + (2 : Int32))).toNatClampNeg)) S (fun e47 S48 => vp_in (v3 + (1 : Int32)) Q.1 ∧ vp_in (v3 + (2 : Int32)) Q.1 ∧ kd S48 v2 = 13 ∧ wp_X12_weigh (v2) ((Q.2 ((v3 + (1 : Int32))).toNatClampNeg)) ((Q.2 ((v3 + (2 : Int32))).toNatClampNeg)) S48 (fun e49 S50 => ((e47 = e49 → wp_L_law_810 K18 Q (v1) (v2) (v3) (S50) ((bc - 1)) ((bs - 3))) ∧ (¬ e47 = e49 → (0 : Int32) = 1))))) ∧ (¬ e9 = 9 → ((e9 = 10 → vp_in (v3 + (1 : Int32)) Q.1 ∧ kd S v1 = 12 ∧ wp_X11_drop (v1) ((Q.2 ((v3 + (1 : Int32))).toNatClampNeg)) S (fun e51 S52 => vp_in (v3 + (1 : Int32)) Q.1 ∧ kd S52 v2 = 13 ∧ wp_X12_drop (v2) ((Q.2 ((v3 + (1 : Int32))).toNatClampNeg)) S52 (fun e53 S54 => ((e51 = e53 → wp_L_law_810 K18 Q (v1) (v2) (v3) (S54) (bc) (bs)) ∧ (¬ e51 = e53 → (0 : Int32) = 1))))) ∧ (¬ e9 = 10 → ((e9 = 11 → kd S v1 = 12 ∧ 28 ≤ bc ∧ 698 ≤ bs ∧ wp_X11_pack (v1) S (fun e55 S56 => kd S56 v2 = 13 ∧ wp_X12_pack (v2) S56 (fun e57 S58 => ((e55 = e57 → wp_L_law_810 K18 Q (v1) (v2) (v3) (S58) ((bc - 28)) ((bs - 698))) ∧ (¬ e55 = e57 → (0 : Int32) = 1))))) ∧ (¬ e9 = 11 → ((e9 = 12 → vp_in (v3 + (1 : Int32)) Q.1 ∧ kd S v1 = 12 ∧ wp_X11_lose (v1) ((Q.2 ((v3 + (1 : Int32))).toNatClampNeg)) S (fun e59 S60 => vp_in (v3 + (1 : Int32)) Q.1 ∧ kd S60 v2 = 13 ∧ wp_X12_lose (v2) ((Q.2 ((v3 + (1 : Int32))).toNatClampNeg)) S60 (fun e61 S62 => ((e59 = e61 → wp_L_law_810 K18 Q (v1) (v2) (v3) (S62) (bc) (bs)) ∧ (¬ e59 = e61 → (0 : Int32) = 1))))) ∧ (¬ e9 = 12 → ((e9 = 13 → vp_in (v3 + (1 : Int32)) Q.1 ∧ vp_in (v3 + (2 : Int32)) Q.1 ∧ kd S v1 = 12 ∧ wp_X11_cut (v1) ((Q.2 ((v3 + (1 : Int32))).toNatClampNeg)) ((Q.2 ((v3 + (2 : Int32))).toNatClampNeg)) S (fun e63 S64 => vp_in (v3 + (1 : Int32)) Q.1 ∧ vp_in (v3 + (2 : Int32)) Q.1 ∧ kd S64 v2 = 13 ∧ wp_X12_cut (v2) ((Q.2 ((v3 + (1 : Int32))).toNatClampNeg)) ((Q.2 ((v3 + (2 : Int32))).toNatClampNeg)) S64 (fun e65 S66 => ((e63 = e65 → wp_L_law_810 K18 Q (v1) (v2) (v3) (S66) (bc) (bs)) ∧ (¬ e63 = e65 → (0 : Int32) = 1))))) ∧ (¬ e9 = 13 → ((e9 = 14 → vp_in (v3 + (1 : Int32)) Q.1 ∧ vp_in (v3 + (2 : Int32)) Q.1 ∧ vp_in (v3 + (3 : Int32)) Q.1 ∧ kd S v1 = 12 ∧ wp_X11_spoil (v1) ((Q.2 ((v3 + (1 : Int32))).toNatClampNeg)) ((Q.2 ((v3 + (2 : Int32))).toNatClampNeg)) ((Q.2 ((v3 + (3 : Int32))).toNatClampNeg)) S (fun e67 S68 => vp_in (v3 + (1 : Int32)) Q.1 ∧ vp_in (v3 + (2 : Int32)) Q.1 ∧ vp_in (v3 + (3 : Int32)) Q.1 ∧ kd S68 v2 = 13 ∧ wp_X12_spoil (v2) ((Q.2 ((v3 + (1 : Int32))).toNatClampNeg)) ((Q.2 ((v3 + (2 : Int32))).toNatClampNeg)) ((Q.2 ((v3 + (3 : Int32))).toNatClampNeg)) S68 (fun e69 S70 => ((e67 = e69 → wp_L_law_810 K18 Q (v1) (v2) (v3) (S70) (bc) (bs)) ∧ (¬ e67 = e69 → (0 : Int32) = 1))))) ∧ (¬ e9 = 14 → ((e9 = 15 → vp_in (v3 + (1 : Int32)) Q.1 ∧ kd S v1 = 12 ∧ wp_X11_again (v1) ((Q.2 ((v3 + (1 : Int32))).toNatClampNeg)) S (fun e71 S72 => vp_in (v3 + (1 : Int32)) Q.1 ∧ kd S72 v2 = 13 ∧ wp_X12_again (v2) ((Q.2 ((v3 + (1 : Int32))).toNatClampNeg)) S72 (fun e73 S74 => ((e71 = e73 → wp_L_law_810 K18 Q (v1) (v2) (v3) (S74) (bc) (bs)) ∧ (¬ e71 = e73 → (0 : Int32) = 1))))) ∧ (¬ e9 = 15 → ((e9 = 16 → kd S v1 = 12 ∧ wp_X11_undo (v1) S (fun e75 S76 => kd S76 v2 = 13 ∧ wp_X12_undo (v2) S76 (fun e77 S78 => ((e75 = e77 → wp_L_law_810 K18 Q (v1) (v2) (v3) (S78) (bc) (bs)) ∧ (¬ e75 = e77 → (0 : Int32) = 1))))) ∧ (¬ e9 = 16 → ((e9 = 17 → vp_in (v3 + (1 : Int32)) Q.1 ∧ vp_in (v3 + (2 : Int32)) Q.1 ∧ kd S v1 = 12 ∧ wp_X11_number (v1) ((Q.2 ((v3 + (1 : Int32))).toNatClampNeg)) ((Q.2 ((v3 + (2 : Int32))).toNatClampNeg)) S (fun e79 => vp_in (v3 + (1 : Int32)) Q.1 ∧ vp_in (v3 + (2 : Int32)) Q.1 ∧ kd S v2 = 13 ∧ wp_X12_number (v2) ((Q.2 ((v3 + (1 : Int32))).toNatClampNeg)) ((Q.2 ((v3 + (2 : Int32))).toNatClampNeg)) S (fun e81 => ((e79 = e81 → wp_L_law_810 K18 Q (v1) (v2) (v3) (S) (bc) (bs)) ∧ (¬ e79 = e81 → (0 : Int32) = 1))))) ∧ (¬ e9 = 17 → ((e9 = 18 → vp_in (v3 + (1 : Int32)) Q.1 ∧ vp_in (v3 + (2 : Int32)) Q.1 ∧ kd S v1 = 12 ∧ wp_X11_packed (v1) ((Q.2 ((v3 + (1 : Int32))).toNatClampNeg)) ((Q.2 ((v3 + (2 : Int32))).toNatClampNeg)) S (fun e83 S84 => vp_in (v3 + (1 : Int32)) Q.1 ∧ vp_in (v3 + (2 : Int32)) Q.1 ∧ kd S84 v2 = 13 ∧ wp_X12_packed (v2) ((Q.2 ((v3 + (1 : Int32))).toNatClampNeg)) ((Q.2 ((v3 + (2 : Int32))).toNatClampNeg)) S84 (fun e85 S86 => ((e83 = e85 → wp_L_law_810 K18 Q (v1) (v2) (v3) (S86) (bc) (bs)) ∧ (¬ e83 = e85 → (0 : Int32) = 1))))) ∧ (¬ e9 = 18 → ((e9 = 19 → vp_in (v3 + (1 : Int32)) Q.1 ∧ vp_in (v3 + (2 : Int32)) Q.1 ∧ kd S v1 = 12 ∧ wp_X11_read (v1) ((Q.2 ((v3 + (1 : Int32))).toNatClampNeg)) ((Q.2 ((v3 + (2 : Int32))).toNatClampNeg)) S (fun e87 S88 => vp_in (v3 + (1 : Int32)) Q.1 ∧ vp_in (v3 + (2 : Int32)) Q.1 ∧ kd S88 v2 = 13 ∧ wp_X12_read (v2) ((Q.2 ((v3 + (1 : Int32))).toNatClampNeg)) ((Q.2 ((v3 + (2 : Int32))).toNatClampNeg)) S88 (fun e89 S90 => ((e87 = e89 → wp_L_law_810 K18 Q (v1) (v2) (v3) (S90) (bc) (bs)) ∧ (¬ e87 = e89 → (0 : Int32) = 1))))) ∧ (¬ e9 = 19 → ((e9 = 20 → vp_in (v3 + (1 : Int32)) Q.1 ∧ vp_in (v3 + (2 : Int32)) Q.1 ∧ kd S v1 = 12 ∧ wp_X11_mended (v1) ((Q.2 ((v3 + (1 : Int32))).toNatClampNeg)) ((Q.2 ((v3 + (2 : Int32))).toNatClampNeg)) S (fun e91 S92 => vp_in (v3 + (1 : Int32)) Q.1 ∧ vp_in (v3 + (2 : Int32)) Q.1 ∧ kd S92 v2 = 13 ∧ wp_X12_mended (v2) ((Q.2 ((v3 + (1 : Int32))).toNatClampNeg)) ((Q.2 ((v3 + (2 : Int32))).toNatClampNeg)) S92 (fun e93 S94 => ((e91 = e93 → wp_L_law_810 K18 Q (v1) (v2) (v3) (S94) (bc) (bs)) ∧ (¬ e91 = e93 → (0 : Int32) = 1))))) ∧ (¬ e9 = 20 → ((e9 = 21 → vp_in (v3 + (1 : Int32)) Q.1 ∧ kd S v1 = 12 ∧ wp_X11_blamed (v1) ((Q.2 ((v3 + (1 : Int32))).toNatClampNeg)) S (fun e95 S96 => vp_in (v3 + (1 : Int32)) Q.1 ∧ kd S96 v2 = 13 ∧ wp_X12_blamed (v2) ((Q.2 ((v3 + (1 : Int32))).toNatClampNeg)) S96 (fun e97 S98 => ((e95 = e97 → wp_L_law_810 K18 Q (v1) (v2) (v3) (S98) (bc) (bs)) ∧ (¬ e95 = e97 → (0 : Int32) = 1))))) ∧ (¬ e9 = 21 → ((e9 = 22 → vp_in (v3 + (1 : Int32)) Q.1 ∧ kd S v1 = 12 ∧ wp_X11_opened (v1) ((Q.2 ((v3 + (1 : Int32))).toNatClampNeg)) S (fun e99 => vp_in (v3 + (1 : Int32)) Q.1 ∧ kd S v2 = 13 ∧ wp_X12_opened (v2) ((Q.2 ((v3 + (1 : Int32))).toNatClampNeg)) S (fun e101 => ((e99 = e101 → wp_L_law_810 K18 Q (v1) (v2) (v3) (S) (bc) (bs)) ∧ (¬ e99 = e101 → (0 : Int32) = 1))))) ∧ (¬ e9 = 22 → ((e9 = 23 → vp_in (v3 + (1 : Int32)) Q.1 ∧ kd S v1 = 12 ∧ wp_X11_plan (v1) ((Q.2 ((v3 + (1 : Int32))).toNatClampNeg)) S (fun e103 S104 => vp_in (v3 + (1 : Int32)) Q.1 ∧ kd S104 v2 = 13 ∧ wp_X12_plan (v2) ((Q.2 ((v3 + (1 : Int32))).toNatClampNeg)) S104 (fun e105 S106 => ((e103 = e105 → wp_L_law_810 K18 Q (v1) (v2) (v3) (S106) (bc) (bs)) ∧ (¬ e103 = e105 → (0 : Int32) = 1))))) ∧ (¬ e9 = 23 → ((e9 = 24 → vp_in (v3 + (1 : Int32)) Q.1 ∧ kd S v1 = 12 ∧ wp_X11_lesser (v1) ((Q.2 ((v3 + (1 : Int32))).toNatClampNeg)) S (fun e107 => vp_in (v3 + (1 : Int32)) Q.1 ∧ kd S v2 = 13 ∧ wp_X12_lesser (v2) ((Q.2 ((v3 + (1 : Int32))).toNatClampNeg)) S (fun e109 => ((e107 = e109 → wp_L_law_810 K18 Q (v1) (v2) (v3) (S) (bc) (bs)) ∧ (¬ e107 = e109 → (0 : Int32) = 1))))) ∧ (¬ e9 = 24 → ((e9 = 25 → vp_in (v3 + (1 : Int32)) Q.1 ∧ kd S v1 = 12 ∧ wp_X11_count (v1) ((Q.2 ((v3 + (1 : Int32))).toNatClampNeg)) S (fun e111 S112 => vp_in (v3 + (1 : Int32)) Q.1 ∧ kd S112 v2 = 13 ∧ wp_X12_count (v2) ((Q.2 ((v3 + (1 : Int32))).toNatClampNeg)) S112 (fun e113 S114 => ((e111 = e113 → wp_L_law_810 K18 Q (v1) (v2) (v3) (S114) (bc) (bs)) ∧ (¬ e111 = e113 → (0 : Int32) = 1))))) ∧ (¬ e9 = 25 → wp_L_law_810 K18 Q (v1) (v2) (v3) (S) (bc) (bs)))))))))))))))))))))))))))))))))))))))))))))))))))))))
abbrev wp_L_law_18  (Q : Nat × (Nat → Int32)) (v1 : Nat) (v2 : Nat) (v3 : Int32) (S : Hp) (bc bs : Nat) : Prop :=
  Lp (X := Int32 × Hp × Nat × Nat) (fun K y => wb_L_law_18  (fun w0 w1 w2 w3 => K (w0, w1, w2, w3)) Q v1 v2 y.1 y.2.1 (y.2.2.1) (y.2.2.2)) (v3, S, bc, bs)
abbrev wp_L_law (S : Hp) (Q : Nat × (Nat → Int32)) : Prop :=
  1 ≤ 600000 ∧ 7 ≤ 7302250 ∧ ∀ n1 : Nat, n1 = sz S → ∀ S2 : Hp, S2 = nw S 12 (0) → 126 ≤ (600000 - 1) ∧ 1898 ≤ (7302250 - 7) ∧ wp_X11_init (n1) S2 (fun S4 => 1 ≤ ((600000 - 1) - 126) ∧ 14 ≤ ((7302250 - 7) - 1898) ∧ ∀ n5 : Nat, n5 = sz S4 → ∀ S6 : Hp, S6 = nw S4 13 (0) → 7 ≤ (((600000 - 1) - 126) - 1) ∧ 7464 ≤ (((7302250 - 7) - 1898) - 14) ∧ wp_X12_init (n5) S6 (fun S8 => wp_L_law_18 Q (n1) (n5) ((0 : Int32)) (S8) (((((600000 - 1) - 126) - 1) - 7)) (((((7302250 - 7) - 1898) - 14) - 7464))))
set_option maxHeartbeats 4000000 in
set_option maxRecDepth 100000 in
theorem g_L_law_810 {Q : Nat × (Nat → Int32)} (C : Cx p s m #[Value.ref b] meth c z cL_law 4 RL ret meth.name) (hX : va_X b Q.1 Q.2 s s.heap ∧ b < s.heap.size) (hz : zb z = s.heap.size) {K18 : Int32 → Hp → Nat → Nat → Prop} {v1 : Nat} {v2 : Nat} {v3 : Int32} {S : Hp} {bc bs : Nat}  (hK18 : ∀ (w3 : Int32) (S2 : Hp) (bc2 bs2 : Nat), K18 w3 S2 bc2 bs2 → Go p l e room_1 s m #[Value.ref b] below meth c z 4 (lw_Z below #[Value.ref b] s) (bc2) (bs2) 18 [(0, .ref b), (1, .ref (v1)), (2, .ref (v2)), (3, .int (w3))] [] (S2)) (hw : wp_L_law_810 K18 Q v1 v2 v3 S bc bs) : Go p l e room_1 s m #[Value.ref b] below meth c z 4 (lw_Z below #[Value.ref b] s) (bc) (bs) 810 [(0, .ref b), (1, .ref (v1)), (2, .ref (v2)), (3, .int (v3))] [] (S) := by
  obtain ⟨e14, he14⟩ : ∃ y : Int32, y = (v3 + 4) := ⟨_, rfl⟩
  have hw := hw e14 he14
  refine G_iinc (pc := 810) C [(3, .int (e14)), (0, .ref b), (1, .ref (v1)), (2, .ref (v2))] 3 (v := e14) dL_law_810 rfl (by rw [he14]; rfl) (by decide) rfl ?_
  clear he14
  refine G_goto (pc := 813) C 18 dL_law_813 (by decide) ?_
  exact G_sub [1, 2, 3, 0] rfl (hK18 _ _ _ _ hw)
set_option maxHeartbeats 4000000 in
set_option maxRecDepth 100000 in
theorem gb_L_law_18 {Q : Nat × (Nat → Int32)} (C : Cx p s m #[Value.ref b] meth c z cL_law 4 RL ret meth.name) (hX : va_X b Q.1 Q.2 s s.heap ∧ b < s.heap.size) (hz : zb z = s.heap.size) {K18 : Int32 → Hp → Nat → Nat → Prop} {v1 : Nat} {v2 : Nat} {v3 : Int32} {S : Hp} {bc bs : Nat}  (hK18 : ∀ (w3 : Int32) (S2 : Hp) (bc2 bs2 : Nat), K18 w3 S2 bc2 bs2 → Go p l e room_1 s m #[Value.ref b] below meth c z 4 (lw_Z below #[Value.ref b] s) (bc2) (bs2) 18 [(0, .ref b), (1, .ref (v1)), (2, .ref (v2)), (3, .int (w3))] [] (S2)) (hw : wb_L_law_18  K18 Q v1 v2 v3 S bc bs) : Go p l e room_1 s m #[Value.ref b] below meth c z 4 (lw_Z below #[Value.ref b] s) (bc) (bs) 18 [(0, .ref b), (1, .ref (v1)), (2, .ref (v2)), (3, .int (v3))] [] (S) := by
  refine G_iload_n (pc := 18) C 3 dL_law_18 rfl rfl ?_
  refine G_aload_n (pc := 19) C 0 dL_law_19 rfl rfl ?_
  refine G_slen (pc := 20) C hX hz dL_law_20 ?_
  refine G_iconst (pc := 21) C (v := 4) dL_law_21 (by decide) ?_
  refine G_isub (pc := 22) C dL_law_22 ?_
  refine G_icmp_gt (pc := 23) C 816 dL_law_23 (by decide) (fun hc => ?_) (fun hc => ?_)
  · have hw := hw.1 hc
    refine G_iconst (pc := 816) C (v := 1) dL_law_816 (by decide) ?_
    clear hw
    exact G_lret (pc := 817) C hz dL_law_817
  · have hw := hw.2 hc
    refine G_aload_n (pc := 26) C 0 dL_law_26 rfl rfl ?_
    refine G_iload_n (pc := 27) C 3 dL_law_27 rfl rfl ?_
    obtain ⟨hi, hw⟩ := hw
    refine G_sld (pc := 28) C hX hz hi dL_law_28 ?_
    refine G_bipush (pc := 29) C (v := 31) dL_law_29 (by decide) ?_
    refine G_iand (pc := 31) C dL_law_31 ?_
    refine G_topi (fun e9 he9 => ?_)
    have hw := hw e9 he9
    by_cases hc0 : e9 = 0
    · have hw := hw.1 hc0
      refine G_tableIn (pc := 32) C 152 dL_law_32 (by rw [hc0]; decide) (by rw [hc0]; decide) (off := 120) (by rw [hc0]; rfl) (by decide) ?_
      refine G_aload_n (pc := 152) C 1 dL_law_152 rfl rfl ?_
      refine G_aload_n (pc := 153) C 0 dL_law_153 rfl rfl ?_
      refine G_iload_n (pc := 154) C 3 dL_law_154 rfl rfl ?_
      refine G_iconst (pc := 155) C (v := 1) dL_law_155 (by decide) ?_
      refine G_iadd (pc := 156) C dL_law_156 ?_
      obtain ⟨hi, hw⟩ := hw
      refine G_sld (pc := 157) C hX hz hi dL_law_157 ?_
      obtain ⟨hk, hw⟩ := hw
      refine cl_RL_13 (pc := 158) C (c_X11_write l z (v1) ((Q.2 ((v3 + (1 : Int32))).toNatClampNeg)) S _ hw) ⟨Nat.le_of_ble_eq_true rfl, Nat.le_of_ble_eq_true rfl⟩ hk dL_law_158 (Nat.le_of_ble_eq_true rfl) (fun v S' hp => ?_)
      clear hw
      obtain ⟨e10, rfl, hw⟩ := hp
      generalize S' = S11 at hw ⊢
      refine G_aload_n (pc := 161) C 2 dL_law_161 rfl rfl ?_
      refine G_aload_n (pc := 162) C 0 dL_law_162 rfl rfl ?_
      refine G_iload_n (pc := 163) C 3 dL_law_163 rfl rfl ?_
      refine G_iconst (pc := 164) C (v := 1) dL_law_164 (by decide) ?_
      refine G_iadd (pc := 165) C dL_law_165 ?_
      obtain ⟨hi, hw⟩ := hw
      refine G_sld (pc := 166) C hX hz hi dL_law_166 ?_
      obtain ⟨hk, hw⟩ := hw
      refine cl_RL_17 (pc := 167) C (c_X12_write l z (v2) ((Q.2 ((v3 + (1 : Int32))).toNatClampNeg)) S11 _ hw) ⟨Nat.le_of_ble_eq_true rfl, Nat.le_of_ble_eq_true rfl⟩ hk dL_law_167 (Nat.le_of_ble_eq_true rfl) (fun v S' hp => ?_)
      clear hw
      obtain ⟨e12, rfl, hw⟩ := hp
      generalize S' = S13 at hw ⊢
      refine G_icmp_eq (pc := 170) C 810 dL_law_170 (by decide) (fun hc => ?_) (fun hc => ?_)
      · have hw := hw.1 hc
        exact G_sub [0, 1, 2, 3] rfl (g_L_law_810 C hX hz hK18 hw)
      · have hw := hw.2 hc
        refine G_iconst (pc := 173) C (v := 0) dL_law_173 (by decide) ?_
        rw [hw]
        exact G_lret (pc := 174) C hz dL_law_174
    have hw := hw.2 hc0
    by_cases hc1 : e9 = 1
    · have hw := hw.1 hc1
      refine G_tableIn (pc := 32) C 175 dL_law_32 (by rw [hc1]; decide) (by rw [hc1]; decide) (off := 143) (by rw [hc1]; rfl) (by decide) ?_
      refine G_aload_n (pc := 175) C 1 dL_law_175 rfl rfl ?_
      obtain ⟨hk, hw⟩ := hw
      refine cl_RL_18 (pc := 176) C (c_X11_erase l z (v1) S _ hw) ⟨Nat.le_of_ble_eq_true rfl, Nat.le_of_ble_eq_true rfl⟩ hk dL_law_176 (Nat.le_of_ble_eq_true rfl) (fun v S' hp => ?_)
      clear hw
      obtain ⟨e15, rfl, hw⟩ := hp
      generalize S' = S16 at hw ⊢
      refine G_aload_n (pc := 179) C 2 dL_law_179 rfl rfl ?_
      obtain ⟨hk, hw⟩ := hw
      refine cl_RL_22 (pc := 180) C (c_X12_erase l z (v2) S16 _ hw) ⟨Nat.le_of_ble_eq_true rfl, Nat.le_of_ble_eq_true rfl⟩ hk dL_law_180 (Nat.le_of_ble_eq_true rfl) (fun v S' hp => ?_)
      clear hw
      obtain ⟨e17, rfl, hw⟩ := hp
      generalize S' = S18 at hw ⊢
      refine G_icmp_eq (pc := 183) C 810 dL_law_183 (by decide) (fun hc => ?_) (fun hc => ?_)
      · have hw := hw.1 hc
        exact G_sub [0, 1, 2, 3] rfl (g_L_law_810 C hX hz hK18 hw)
      · have hw := hw.2 hc
        refine G_iconst (pc := 186) C (v := 0) dL_law_186 (by decide) ?_
        rw [hw]
        exact G_lret (pc := 187) C hz dL_law_187
    have hw := hw.2 hc1
    by_cases hc2 : e9 = 2
    · have hw := hw.1 hc2
      refine G_tableIn (pc := 32) C 188 dL_law_32 (by rw [hc2]; decide) (by rw [hc2]; decide) (off := 156) (by rw [hc2]; rfl) (by decide) ?_
      refine G_aload_n (pc := 188) C 1 dL_law_188 rfl rfl ?_
      obtain ⟨hk, hw⟩ := hw
      refine cl_RL_23 (pc := 189) C (c_X11_fault l z (v1) S _ hw) ⟨Nat.le_of_ble_eq_true rfl, Nat.le_of_ble_eq_true rfl⟩ hk dL_law_189 (Nat.le_of_ble_eq_true rfl) (fun v S' hp => ?_)
      clear hw
      obtain ⟨e19, rfl, hw⟩ := hp
      generalize S' = S20 at hw ⊢
      refine G_aload_n (pc := 192) C 2 dL_law_192 rfl rfl ?_
      obtain ⟨hk, hw⟩ := hw
      refine cl_RL_26 (pc := 193) C (c_X12_fault l z (v2) S20 _ hw) ⟨Nat.le_of_ble_eq_true rfl, Nat.le_of_ble_eq_true rfl⟩ hk dL_law_193 (Nat.le_of_ble_eq_true rfl) (fun v S' hp => ?_)
      clear hw
      obtain ⟨e21, rfl, hw⟩ := hp
      generalize S' = S22 at hw ⊢
      refine G_icmp_eq (pc := 196) C 810 dL_law_196 (by decide) (fun hc => ?_) (fun hc => ?_)
      · have hw := hw.1 hc
        exact G_sub [0, 1, 2, 3] rfl (g_L_law_810 C hX hz hK18 hw)
      · have hw := hw.2 hc
        refine G_iconst (pc := 199) C (v := 0) dL_law_199 (by decide) ?_
        rw [hw]
        exact G_lret (pc := 200) C hz dL_law_200
    have hw := hw.2 hc2
    by_cases hc3 : e9 = 3
    · have hw := hw.1 hc3
      refine G_tableIn (pc := 32) C 201 dL_law_32 (by rw [hc3]; decide) (by rw [hc3]; decide) (off := 169) (by rw [hc3]; rfl) (by decide) ?_
      refine G_aload_n (pc := 201) C 1 dL_law_201 rfl rfl ?_
      obtain ⟨hk, hw⟩ := hw
      obtain ⟨hb1, hb2, hw⟩ := hw
      refine G_less (bc' := (bc - 48) + 48) (bs' := (bs - 360) + 360) (by omega) (by omega) ?_
      refine cl_RL_27 (pc := 202) C (c_X11_tell l z (v1) S _ hw) ⟨Nat.le_of_ble_eq_true rfl, Nat.le_of_ble_eq_true rfl⟩ hk dL_law_202 (Nat.le_of_ble_eq_true rfl) (fun v S' hp => ?_)
      clear hw
      obtain ⟨e23, rfl, hw⟩ := hp
      generalize S' = S24 at hw ⊢
      refine G_aload_n (pc := 205) C 2 dL_law_205 rfl rfl ?_
      obtain ⟨hk, hw⟩ := hw
      refine cl_RL_30 (pc := 206) C (c_X12_tell l z (v2) S24 _ hw) ⟨Nat.le_of_ble_eq_true rfl, Nat.le_of_ble_eq_true rfl⟩ hk dL_law_206 (Nat.le_of_ble_eq_true rfl) (fun v S' hp => ?_)
      clear hw
      obtain ⟨e25, rfl, hw⟩ := hp
      generalize S' = S26 at hw ⊢
      refine G_icmp_eq (pc := 209) C 810 dL_law_209 (by decide) (fun hc => ?_) (fun hc => ?_)
      · have hw := hw.1 hc
        exact G_sub [0, 1, 2, 3] rfl (g_L_law_810 C hX hz hK18 hw)
      · have hw := hw.2 hc
        refine G_iconst (pc := 212) C (v := 0) dL_law_212 (by decide) ?_
        rw [hw]
        exact G_lret (pc := 213) C hz dL_law_213
    have hw := hw.2 hc3
    by_cases hc4 : e9 = 4
    · have hw := hw.1 hc4
      refine G_tableIn (pc := 32) C 214 dL_law_32 (by rw [hc4]; decide) (by rw [hc4]; decide) (off := 182) (by rw [hc4]; rfl) (by decide) ?_
      refine G_aload_n (pc := 214) C 1 dL_law_214 rfl rfl ?_
      refine G_aload_n (pc := 215) C 0 dL_law_215 rfl rfl ?_
      refine G_iload_n (pc := 216) C 3 dL_law_216 rfl rfl ?_
      refine G_iconst (pc := 217) C (v := 1) dL_law_217 (by decide) ?_
      refine G_iadd (pc := 218) C dL_law_218 ?_
      obtain ⟨hi, hw⟩ := hw
      refine G_sld (pc := 219) C hX hz hi dL_law_219 ?_
      refine G_aload_n (pc := 220) C 0 dL_law_220 rfl rfl ?_
      refine G_iload_n (pc := 221) C 3 dL_law_221 rfl rfl ?_
      refine G_iconst (pc := 222) C (v := 2) dL_law_222 (by decide) ?_
      refine G_iadd (pc := 223) C dL_law_223 ?_
      obtain ⟨hi, hw⟩ := hw
      refine G_sld (pc := 224) C hX hz hi dL_law_224 ?_
      obtain ⟨hk, hw⟩ := hw
      refine cl_RL_31 (pc := 225) C (c_X11_part l z (v1) ((Q.2 ((v3 + (1 : Int32))).toNatClampNeg)) ((Q.2 ((v3 + (2 : Int32))).toNatClampNeg)) S _ hw) ⟨Nat.le_of_ble_eq_true rfl, Nat.le_of_ble_eq_true rfl⟩ hk dL_law_225 (Nat.le_of_ble_eq_true rfl) (fun v S' hp => ?_)
      clear hw
      obtain ⟨hS, e27, rfl, hw⟩ := hp
      subst S'
      refine G_aload_n (pc := 228) C 2 dL_law_228 rfl rfl ?_
      refine G_aload_n (pc := 229) C 0 dL_law_229 rfl rfl ?_
      refine G_iload_n (pc := 230) C 3 dL_law_230 rfl rfl ?_
      refine G_iconst (pc := 231) C (v := 1) dL_law_231 (by decide) ?_
      refine G_iadd (pc := 232) C dL_law_232 ?_
      obtain ⟨hi, hw⟩ := hw
      refine G_sld (pc := 233) C hX hz hi dL_law_233 ?_
      refine G_aload_n (pc := 234) C 0 dL_law_234 rfl rfl ?_
      refine G_iload_n (pc := 235) C 3 dL_law_235 rfl rfl ?_
      refine G_iconst (pc := 236) C (v := 2) dL_law_236 (by decide) ?_
      refine G_iadd (pc := 237) C dL_law_237 ?_
      obtain ⟨hi, hw⟩ := hw
      refine G_sld (pc := 238) C hX hz hi dL_law_238 ?_
      obtain ⟨hk, hw⟩ := hw
      refine cl_RL_35 (pc := 239) C (c_X12_part l z (v2) ((Q.2 ((v3 + (1 : Int32))).toNatClampNeg)) ((Q.2 ((v3 + (2 : Int32))).toNatClampNeg)) S _ hw) ⟨Nat.le_of_ble_eq_true rfl, Nat.le_of_ble_eq_true rfl⟩ hk dL_law_239 (Nat.le_of_ble_eq_true rfl) (fun v S' hp => ?_)
      clear hw
      obtain ⟨hS, e29, rfl, hw⟩ := hp
      subst S'
      refine G_icmp_eq (pc := 242) C 810 dL_law_242 (by decide) (fun hc => ?_) (fun hc => ?_)
      · have hw := hw.1 hc
        exact G_sub [0, 1, 2, 3] rfl (g_L_law_810 C hX hz hK18 hw)
      · have hw := hw.2 hc
        refine G_iconst (pc := 245) C (v := 0) dL_law_245 (by decide) ?_
        rw [hw]
        exact G_lret (pc := 246) C hz dL_law_246
    have hw := hw.2 hc4
    by_cases hc5 : e9 = 5
    · have hw := hw.1 hc5
      refine G_tableIn (pc := 32) C 247 dL_law_32 (by rw [hc5]; decide) (by rw [hc5]; decide) (off := 215) (by rw [hc5]; rfl) (by decide) ?_
      refine G_aload_n (pc := 247) C 1 dL_law_247 rfl rfl ?_
      refine G_aload_n (pc := 248) C 0 dL_law_248 rfl rfl ?_
      refine G_iload_n (pc := 249) C 3 dL_law_249 rfl rfl ?_
      refine G_iconst (pc := 250) C (v := 1) dL_law_250 (by decide) ?_
      refine G_iadd (pc := 251) C dL_law_251 ?_
      obtain ⟨hi, hw⟩ := hw
      refine G_sld (pc := 252) C hX hz hi dL_law_252 ?_
      refine G_aload_n (pc := 253) C 0 dL_law_253 rfl rfl ?_
      refine G_iload_n (pc := 254) C 3 dL_law_254 rfl rfl ?_
      refine G_iconst (pc := 255) C (v := 2) dL_law_255 (by decide) ?_
      refine G_iadd (pc := 256) C dL_law_256 ?_
      obtain ⟨hi, hw⟩ := hw
      refine G_sld (pc := 257) C hX hz hi dL_law_257 ?_
      obtain ⟨hk, hw⟩ := hw
      refine cl_RL_36 (pc := 258) C (c_X11_letter l z (v1) ((Q.2 ((v3 + (1 : Int32))).toNatClampNeg)) ((Q.2 ((v3 + (2 : Int32))).toNatClampNeg)) S _ hw) ⟨Nat.le_of_ble_eq_true rfl, Nat.le_of_ble_eq_true rfl⟩ hk dL_law_258 (Nat.le_of_ble_eq_true rfl) (fun v S' hp => ?_)
      clear hw
      obtain ⟨hS, e31, rfl, hw⟩ := hp
      subst S'
      refine G_aload_n (pc := 261) C 2 dL_law_261 rfl rfl ?_
      refine G_aload_n (pc := 262) C 0 dL_law_262 rfl rfl ?_
      refine G_iload_n (pc := 263) C 3 dL_law_263 rfl rfl ?_
      refine G_iconst (pc := 264) C (v := 1) dL_law_264 (by decide) ?_
      refine G_iadd (pc := 265) C dL_law_265 ?_
      obtain ⟨hi, hw⟩ := hw
      refine G_sld (pc := 266) C hX hz hi dL_law_266 ?_
      refine G_aload_n (pc := 267) C 0 dL_law_267 rfl rfl ?_
      refine G_iload_n (pc := 268) C 3 dL_law_268 rfl rfl ?_
      refine G_iconst (pc := 269) C (v := 2) dL_law_269 (by decide) ?_
      refine G_iadd (pc := 270) C dL_law_270 ?_
      obtain ⟨hi, hw⟩ := hw
      refine G_sld (pc := 271) C hX hz hi dL_law_271 ?_
      obtain ⟨hk, hw⟩ := hw
      refine cl_RL_39 (pc := 272) C (c_X12_letter l z (v2) ((Q.2 ((v3 + (1 : Int32))).toNatClampNeg)) ((Q.2 ((v3 + (2 : Int32))).toNatClampNeg)) S _ hw) ⟨Nat.le_of_ble_eq_true rfl, Nat.le_of_ble_eq_true rfl⟩ hk dL_law_272 (Nat.le_of_ble_eq_true rfl) (fun v S' hp => ?_)
      clear hw
      obtain ⟨hS, e33, rfl, hw⟩ := hp
      subst S'
      refine G_icmp_eq (pc := 275) C 810 dL_law_275 (by decide) (fun hc => ?_) (fun hc => ?_)
      · have hw := hw.1 hc
        exact G_sub [0, 1, 2, 3] rfl (g_L_law_810 C hX hz hK18 hw)
      · have hw := hw.2 hc
        refine G_iconst (pc := 278) C (v := 0) dL_law_278 (by decide) ?_
        rw [hw]
        exact G_lret (pc := 279) C hz dL_law_279
    have hw := hw.2 hc5
    by_cases hc6 : e9 = 6
    · have hw := hw.1 hc6
      refine G_tableIn (pc := 32) C 280 dL_law_32 (by rw [hc6]; decide) (by rw [hc6]; decide) (off := 248) (by rw [hc6]; rfl) (by decide) ?_
      refine G_aload_n (pc := 280) C 1 dL_law_280 rfl rfl ?_
      refine G_aload_n (pc := 281) C 0 dL_law_281 rfl rfl ?_
      refine G_iload_n (pc := 282) C 3 dL_law_282 rfl rfl ?_
      refine G_iconst (pc := 283) C (v := 1) dL_law_283 (by decide) ?_
      refine G_iadd (pc := 284) C dL_law_284 ?_
      obtain ⟨hi, hw⟩ := hw
      refine G_sld (pc := 285) C hX hz hi dL_law_285 ?_
      obtain ⟨hk, hw⟩ := hw
      refine cl_RL_40 (pc := 286) C (c_X11_packets l z (v1) ((Q.2 ((v3 + (1 : Int32))).toNatClampNeg)) S _ hw) ⟨Nat.le_of_ble_eq_true rfl, Nat.le_of_ble_eq_true rfl⟩ hk dL_law_286 (Nat.le_of_ble_eq_true rfl) (fun v S' hp => ?_)
      clear hw
      obtain ⟨e35, rfl, hw⟩ := hp
      generalize S' = S36 at hw ⊢
      refine G_aload_n (pc := 289) C 2 dL_law_289 rfl rfl ?_
      refine G_aload_n (pc := 290) C 0 dL_law_290 rfl rfl ?_
      refine G_iload_n (pc := 291) C 3 dL_law_291 rfl rfl ?_
      refine G_iconst (pc := 292) C (v := 1) dL_law_292 (by decide) ?_
      refine G_iadd (pc := 293) C dL_law_293 ?_
      obtain ⟨hi, hw⟩ := hw
      refine G_sld (pc := 294) C hX hz hi dL_law_294 ?_
      obtain ⟨hk, hw⟩ := hw
      refine cl_RL_43 (pc := 295) C (c_X12_packets l z (v2) ((Q.2 ((v3 + (1 : Int32))).toNatClampNeg)) S36 _ hw) ⟨Nat.le_of_ble_eq_true rfl, Nat.le_of_ble_eq_true rfl⟩ hk dL_law_295 (Nat.le_of_ble_eq_true rfl) (fun v S' hp => ?_)
      clear hw
      obtain ⟨e37, rfl, hw⟩ := hp
      generalize S' = S38 at hw ⊢
      refine G_icmp_eq (pc := 298) C 810 dL_law_298 (by decide) (fun hc => ?_) (fun hc => ?_)
      · have hw := hw.1 hc
        exact G_sub [0, 1, 2, 3] rfl (g_L_law_810 C hX hz hK18 hw)
      · have hw := hw.2 hc
        refine G_iconst (pc := 301) C (v := 0) dL_law_301 (by decide) ?_
        rw [hw]
        exact G_lret (pc := 302) C hz dL_law_302
    have hw := hw.2 hc6
    by_cases hc7 : e9 = 7
    · have hw := hw.1 hc7
      refine G_tableIn (pc := 32) C 303 dL_law_32 (by rw [hc7]; decide) (by rw [hc7]; decide) (off := 271) (by rw [hc7]; rfl) (by decide) ?_
      refine G_aload_n (pc := 303) C 1 dL_law_303 rfl rfl ?_
      refine G_aload_n (pc := 304) C 0 dL_law_304 rfl rfl ?_
      refine G_iload_n (pc := 305) C 3 dL_law_305 rfl rfl ?_
      refine G_iconst (pc := 306) C (v := 1) dL_law_306 (by decide) ?_
      refine G_iadd (pc := 307) C dL_law_307 ?_
      obtain ⟨hi, hw⟩ := hw
      refine G_sld (pc := 308) C hX hz hi dL_law_308 ?_
      obtain ⟨hk, hw⟩ := hw
      refine cl_RL_44 (pc := 309) C (c_X11_room l z (v1) ((Q.2 ((v3 + (1 : Int32))).toNatClampNeg)) S _ hw) ⟨Nat.le_of_ble_eq_true rfl, Nat.le_of_ble_eq_true rfl⟩ hk dL_law_309 (Nat.le_of_ble_eq_true rfl) (fun v S' hp => ?_)
      clear hw
      obtain ⟨e39, rfl, hw⟩ := hp
      generalize S' = S40 at hw ⊢
      refine G_aload_n (pc := 312) C 2 dL_law_312 rfl rfl ?_
      refine G_aload_n (pc := 313) C 0 dL_law_313 rfl rfl ?_
      refine G_iload_n (pc := 314) C 3 dL_law_314 rfl rfl ?_
      refine G_iconst (pc := 315) C (v := 1) dL_law_315 (by decide) ?_
      refine G_iadd (pc := 316) C dL_law_316 ?_
      obtain ⟨hi, hw⟩ := hw
      refine G_sld (pc := 317) C hX hz hi dL_law_317 ?_
      obtain ⟨hk, hw⟩ := hw
      refine cl_RL_47 (pc := 318) C (c_X12_room l z (v2) ((Q.2 ((v3 + (1 : Int32))).toNatClampNeg)) S40 _ hw) ⟨Nat.le_of_ble_eq_true rfl, Nat.le_of_ble_eq_true rfl⟩ hk dL_law_318 (Nat.le_of_ble_eq_true rfl) (fun v S' hp => ?_)
      clear hw
      obtain ⟨e41, rfl, hw⟩ := hp
      generalize S' = S42 at hw ⊢
      refine G_icmp_eq (pc := 321) C 810 dL_law_321 (by decide) (fun hc => ?_) (fun hc => ?_)
      · have hw := hw.1 hc
        exact G_sub [0, 1, 2, 3] rfl (g_L_law_810 C hX hz hK18 hw)
      · have hw := hw.2 hc
        refine G_iconst (pc := 324) C (v := 0) dL_law_324 (by decide) ?_
        rw [hw]
        exact G_lret (pc := 325) C hz dL_law_325
    have hw := hw.2 hc7
    by_cases hc8 : e9 = 8
    · have hw := hw.1 hc8
      refine G_tableIn (pc := 32) C 326 dL_law_32 (by rw [hc8]; decide) (by rw [hc8]; decide) (off := 294) (by rw [hc8]; rfl) (by decide) ?_
      refine G_aload_n (pc := 326) C 1 dL_law_326 rfl rfl ?_
      refine G_aload_n (pc := 327) C 0 dL_law_327 rfl rfl ?_
      refine G_iload_n (pc := 328) C 3 dL_law_328 rfl rfl ?_
      refine G_iconst (pc := 329) C (v := 1) dL_law_329 (by decide) ?_
      refine G_iadd (pc := 330) C dL_law_330 ?_
      obtain ⟨hi, hw⟩ := hw
      refine G_sld (pc := 331) C hX hz hi dL_law_331 ?_
      refine G_aload_n (pc := 332) C 0 dL_law_332 rfl rfl ?_
      refine G_iload_n (pc := 333) C 3 dL_law_333 rfl rfl ?_
      refine G_iconst (pc := 334) C (v := 2) dL_law_334 (by decide) ?_
      refine G_iadd (pc := 335) C dL_law_335 ?_
      obtain ⟨hi, hw⟩ := hw
      refine G_sld (pc := 336) C hX hz hi dL_law_336 ?_
      obtain ⟨hk, hw⟩ := hw
      obtain ⟨hb1, hb2, hw⟩ := hw
      refine G_less (bc' := (bc - 1) + 1) (bs' := (bs - 3) + 3) (by omega) (by omega) ?_
      refine cl_RL_48 (pc := 337) C (c_X11_need l z (v1) ((Q.2 ((v3 + (1 : Int32))).toNatClampNeg)) ((Q.2 ((v3 + (2 : Int32))).toNatClampNeg)) S _ hw) ⟨Nat.le_of_ble_eq_true rfl, Nat.le_of_ble_eq_true rfl⟩ hk dL_law_337 (Nat.le_of_ble_eq_true rfl) (fun v S' hp => ?_)
      clear hw
      obtain ⟨e43, rfl, hw⟩ := hp
      generalize S' = S44 at hw ⊢
      refine G_aload_n (pc := 340) C 2 dL_law_340 rfl rfl ?_
      refine G_aload_n (pc := 341) C 0 dL_law_341 rfl rfl ?_
      refine G_iload_n (pc := 342) C 3 dL_law_342 rfl rfl ?_
      refine G_iconst (pc := 343) C (v := 1) dL_law_343 (by decide) ?_
      refine G_iadd (pc := 344) C dL_law_344 ?_
      obtain ⟨hi, hw⟩ := hw
      refine G_sld (pc := 345) C hX hz hi dL_law_345 ?_
      refine G_aload_n (pc := 346) C 0 dL_law_346 rfl rfl ?_
      refine G_iload_n (pc := 347) C 3 dL_law_347 rfl rfl ?_
      refine G_iconst (pc := 348) C (v := 2) dL_law_348 (by decide) ?_
      refine G_iadd (pc := 349) C dL_law_349 ?_
      obtain ⟨hi, hw⟩ := hw
      refine G_sld (pc := 350) C hX hz hi dL_law_350 ?_
      obtain ⟨hk, hw⟩ := hw
      refine cl_RL_51 (pc := 351) C (c_X12_need l z (v2) ((Q.2 ((v3 + (1 : Int32))).toNatClampNeg)) ((Q.2 ((v3 + (2 : Int32))).toNatClampNeg)) S44 _ hw) ⟨Nat.le_of_ble_eq_true rfl, Nat.le_of_ble_eq_true rfl⟩ hk dL_law_351 (Nat.le_of_ble_eq_true rfl) (fun v S' hp => ?_)
      clear hw
      obtain ⟨e45, rfl, hw⟩ := hp
      generalize S' = S46 at hw ⊢
      refine G_icmp_eq (pc := 354) C 810 dL_law_354 (by decide) (fun hc => ?_) (fun hc => ?_)
      · have hw := hw.1 hc
        exact G_sub [0, 1, 2, 3] rfl (g_L_law_810 C hX hz hK18 hw)
      · have hw := hw.2 hc
        refine G_iconst (pc := 357) C (v := 0) dL_law_357 (by decide) ?_
        rw [hw]
        exact G_lret (pc := 358) C hz dL_law_358
    have hw := hw.2 hc8
    by_cases hc9 : e9 = 9
    · have hw := hw.1 hc9
      refine G_tableIn (pc := 32) C 359 dL_law_32 (by rw [hc9]; decide) (by rw [hc9]; decide) (off := 327) (by rw [hc9]; rfl) (by decide) ?_
      refine G_aload_n (pc := 359) C 1 dL_law_359 rfl rfl ?_
      refine G_aload_n (pc := 360) C 0 dL_law_360 rfl rfl ?_
      refine G_iload_n (pc := 361) C 3 dL_law_361 rfl rfl ?_
      refine G_iconst (pc := 362) C (v := 1) dL_law_362 (by decide) ?_
      refine G_iadd (pc := 363) C dL_law_363 ?_
      obtain ⟨hi, hw⟩ := hw
      refine G_sld (pc := 364) C hX hz hi dL_law_364 ?_
      refine G_aload_n (pc := 365) C 0 dL_law_365 rfl rfl ?_
      refine G_iload_n (pc := 366) C 3 dL_law_366 rfl rfl ?_
      refine G_iconst (pc := 367) C (v := 2) dL_law_367 (by decide) ?_
      refine G_iadd (pc := 368) C dL_law_368 ?_
      obtain ⟨hi, hw⟩ := hw
      refine G_sld (pc := 369) C hX hz hi dL_law_369 ?_
      obtain ⟨hk, hw⟩ := hw
      obtain ⟨hb1, hb2, hw⟩ := hw
      refine G_less (bc' := (bc - 1) + 1) (bs' := (bs - 3) + 3) (by omega) (by omega) ?_
      refine cl_RL_52 (pc := 370) C (c_X11_weigh l z (v1) ((Q.2 ((v3 + (1 : Int32))).toNatClampNeg)) ((Q.2 ((v3 + (2 : Int32))).toNatClampNeg)) S _ hw) ⟨Nat.le_of_ble_eq_true rfl, Nat.le_of_ble_eq_true rfl⟩ hk dL_law_370 (Nat.le_of_ble_eq_true rfl) (fun v S' hp => ?_)
      clear hw
      obtain ⟨e47, rfl, hw⟩ := hp
      generalize S' = S48 at hw ⊢
      refine G_aload_n (pc := 373) C 2 dL_law_373 rfl rfl ?_
      refine G_aload_n (pc := 374) C 0 dL_law_374 rfl rfl ?_
      refine G_iload_n (pc := 375) C 3 dL_law_375 rfl rfl ?_
      refine G_iconst (pc := 376) C (v := 1) dL_law_376 (by decide) ?_
      refine G_iadd (pc := 377) C dL_law_377 ?_
      obtain ⟨hi, hw⟩ := hw
      refine G_sld (pc := 378) C hX hz hi dL_law_378 ?_
      refine G_aload_n (pc := 379) C 0 dL_law_379 rfl rfl ?_
      refine G_iload_n (pc := 380) C 3 dL_law_380 rfl rfl ?_
      refine G_iconst (pc := 381) C (v := 2) dL_law_381 (by decide) ?_
      refine G_iadd (pc := 382) C dL_law_382 ?_
      obtain ⟨hi, hw⟩ := hw
      refine G_sld (pc := 383) C hX hz hi dL_law_383 ?_
      obtain ⟨hk, hw⟩ := hw
      refine cl_RL_55 (pc := 384) C (c_X12_weigh l z (v2) ((Q.2 ((v3 + (1 : Int32))).toNatClampNeg)) ((Q.2 ((v3 + (2 : Int32))).toNatClampNeg)) S48 _ hw) ⟨Nat.le_of_ble_eq_true rfl, Nat.le_of_ble_eq_true rfl⟩ hk dL_law_384 (Nat.le_of_ble_eq_true rfl) (fun v S' hp => ?_)
      clear hw
      obtain ⟨e49, rfl, hw⟩ := hp
      generalize S' = S50 at hw ⊢
      refine G_icmp_eq (pc := 387) C 810 dL_law_387 (by decide) (fun hc => ?_) (fun hc => ?_)
      · have hw := hw.1 hc
        exact G_sub [0, 1, 2, 3] rfl (g_L_law_810 C hX hz hK18 hw)
      · have hw := hw.2 hc
        refine G_iconst (pc := 390) C (v := 0) dL_law_390 (by decide) ?_
        rw [hw]
        exact G_lret (pc := 391) C hz dL_law_391
    have hw := hw.2 hc9
    by_cases hc10 : e9 = 10
    · have hw := hw.1 hc10
      refine G_tableIn (pc := 32) C 392 dL_law_32 (by rw [hc10]; decide) (by rw [hc10]; decide) (off := 360) (by rw [hc10]; rfl) (by decide) ?_
      refine G_aload_n (pc := 392) C 1 dL_law_392 rfl rfl ?_
      refine G_aload_n (pc := 393) C 0 dL_law_393 rfl rfl ?_
      refine G_iload_n (pc := 394) C 3 dL_law_394 rfl rfl ?_
      refine G_iconst (pc := 395) C (v := 1) dL_law_395 (by decide) ?_
      refine G_iadd (pc := 396) C dL_law_396 ?_
      obtain ⟨hi, hw⟩ := hw
      refine G_sld (pc := 397) C hX hz hi dL_law_397 ?_
      obtain ⟨hk, hw⟩ := hw
      refine cl_RL_56 (pc := 398) C (c_X11_drop l z (v1) ((Q.2 ((v3 + (1 : Int32))).toNatClampNeg)) S _ hw) ⟨Nat.le_of_ble_eq_true rfl, Nat.le_of_ble_eq_true rfl⟩ hk dL_law_398 (Nat.le_of_ble_eq_true rfl) (fun v S' hp => ?_)
      clear hw
      obtain ⟨e51, rfl, hw⟩ := hp
      generalize S' = S52 at hw ⊢
      refine G_aload_n (pc := 401) C 2 dL_law_401 rfl rfl ?_
      refine G_aload_n (pc := 402) C 0 dL_law_402 rfl rfl ?_
      refine G_iload_n (pc := 403) C 3 dL_law_403 rfl rfl ?_
      refine G_iconst (pc := 404) C (v := 1) dL_law_404 (by decide) ?_
      refine G_iadd (pc := 405) C dL_law_405 ?_
      obtain ⟨hi, hw⟩ := hw
      refine G_sld (pc := 406) C hX hz hi dL_law_406 ?_
      obtain ⟨hk, hw⟩ := hw
      refine cl_RL_59 (pc := 407) C (c_X12_drop l z (v2) ((Q.2 ((v3 + (1 : Int32))).toNatClampNeg)) S52 _ hw) ⟨Nat.le_of_ble_eq_true rfl, Nat.le_of_ble_eq_true rfl⟩ hk dL_law_407 (Nat.le_of_ble_eq_true rfl) (fun v S' hp => ?_)
      clear hw
      obtain ⟨e53, rfl, hw⟩ := hp
      generalize S' = S54 at hw ⊢
      refine G_icmp_eq (pc := 410) C 810 dL_law_410 (by decide) (fun hc => ?_) (fun hc => ?_)
      · have hw := hw.1 hc
        exact G_sub [0, 1, 2, 3] rfl (g_L_law_810 C hX hz hK18 hw)
      · have hw := hw.2 hc
        refine G_iconst (pc := 413) C (v := 0) dL_law_413 (by decide) ?_
        rw [hw]
        exact G_lret (pc := 414) C hz dL_law_414
    have hw := hw.2 hc10
    by_cases hc11 : e9 = 11
    · have hw := hw.1 hc11
      refine G_tableIn (pc := 32) C 415 dL_law_32 (by rw [hc11]; decide) (by rw [hc11]; decide) (off := 383) (by rw [hc11]; rfl) (by decide) ?_
      refine G_aload_n (pc := 415) C 1 dL_law_415 rfl rfl ?_
      obtain ⟨hk, hw⟩ := hw
      obtain ⟨hb1, hb2, hw⟩ := hw
      refine G_less (bc' := (bc - 28) + 28) (bs' := (bs - 698) + 698) (by omega) (by omega) ?_
      refine cl_RL_60 (pc := 416) C (c_X11_pack l z (v1) S _ hw) ⟨Nat.le_of_ble_eq_true rfl, Nat.le_of_ble_eq_true rfl⟩ hk dL_law_416 (Nat.le_of_ble_eq_true rfl) (fun v S' hp => ?_)
      clear hw
      obtain ⟨e55, rfl, hw⟩ := hp
      generalize S' = S56 at hw ⊢
      refine G_aload_n (pc := 419) C 2 dL_law_419 rfl rfl ?_
      obtain ⟨hk, hw⟩ := hw
      refine cl_RL_63 (pc := 420) C (c_X12_pack l z (v2) S56 _ hw) ⟨Nat.le_of_ble_eq_true rfl, Nat.le_of_ble_eq_true rfl⟩ hk dL_law_420 (Nat.le_of_ble_eq_true rfl) (fun v S' hp => ?_)
      clear hw
      obtain ⟨e57, rfl, hw⟩ := hp
      generalize S' = S58 at hw ⊢
      refine G_icmp_eq (pc := 423) C 810 dL_law_423 (by decide) (fun hc => ?_) (fun hc => ?_)
      · have hw := hw.1 hc
        exact G_sub [0, 1, 2, 3] rfl (g_L_law_810 C hX hz hK18 hw)
      · have hw := hw.2 hc
        refine G_iconst (pc := 426) C (v := 0) dL_law_426 (by decide) ?_
        rw [hw]
        exact G_lret (pc := 427) C hz dL_law_427
    have hw := hw.2 hc11
    by_cases hc12 : e9 = 12
    · have hw := hw.1 hc12
      refine G_tableIn (pc := 32) C 428 dL_law_32 (by rw [hc12]; decide) (by rw [hc12]; decide) (off := 396) (by rw [hc12]; rfl) (by decide) ?_
      refine G_aload_n (pc := 428) C 1 dL_law_428 rfl rfl ?_
      refine G_aload_n (pc := 429) C 0 dL_law_429 rfl rfl ?_
      refine G_iload_n (pc := 430) C 3 dL_law_430 rfl rfl ?_
      refine G_iconst (pc := 431) C (v := 1) dL_law_431 (by decide) ?_
      refine G_iadd (pc := 432) C dL_law_432 ?_
      obtain ⟨hi, hw⟩ := hw
      refine G_sld (pc := 433) C hX hz hi dL_law_433 ?_
      obtain ⟨hk, hw⟩ := hw
      refine cl_RL_64 (pc := 434) C (c_X11_lose l z (v1) ((Q.2 ((v3 + (1 : Int32))).toNatClampNeg)) S _ hw) ⟨Nat.le_of_ble_eq_true rfl, Nat.le_of_ble_eq_true rfl⟩ hk dL_law_434 (Nat.le_of_ble_eq_true rfl) (fun v S' hp => ?_)
      clear hw
      obtain ⟨e59, rfl, hw⟩ := hp
      generalize S' = S60 at hw ⊢
      refine G_aload_n (pc := 437) C 2 dL_law_437 rfl rfl ?_
      refine G_aload_n (pc := 438) C 0 dL_law_438 rfl rfl ?_
      refine G_iload_n (pc := 439) C 3 dL_law_439 rfl rfl ?_
      refine G_iconst (pc := 440) C (v := 1) dL_law_440 (by decide) ?_
      refine G_iadd (pc := 441) C dL_law_441 ?_
      obtain ⟨hi, hw⟩ := hw
      refine G_sld (pc := 442) C hX hz hi dL_law_442 ?_
      obtain ⟨hk, hw⟩ := hw
      refine cl_RL_67 (pc := 443) C (c_X12_lose l z (v2) ((Q.2 ((v3 + (1 : Int32))).toNatClampNeg)) S60 _ hw) ⟨Nat.le_of_ble_eq_true rfl, Nat.le_of_ble_eq_true rfl⟩ hk dL_law_443 (Nat.le_of_ble_eq_true rfl) (fun v S' hp => ?_)
      clear hw
      obtain ⟨e61, rfl, hw⟩ := hp
      generalize S' = S62 at hw ⊢
      refine G_icmp_eq (pc := 446) C 810 dL_law_446 (by decide) (fun hc => ?_) (fun hc => ?_)
      · have hw := hw.1 hc
        exact G_sub [0, 1, 2, 3] rfl (g_L_law_810 C hX hz hK18 hw)
      · have hw := hw.2 hc
        refine G_iconst (pc := 449) C (v := 0) dL_law_449 (by decide) ?_
        rw [hw]
        exact G_lret (pc := 450) C hz dL_law_450
    have hw := hw.2 hc12
    by_cases hc13 : e9 = 13
    · have hw := hw.1 hc13
      refine G_tableIn (pc := 32) C 451 dL_law_32 (by rw [hc13]; decide) (by rw [hc13]; decide) (off := 419) (by rw [hc13]; rfl) (by decide) ?_
      refine G_aload_n (pc := 451) C 1 dL_law_451 rfl rfl ?_
      refine G_aload_n (pc := 452) C 0 dL_law_452 rfl rfl ?_
      refine G_iload_n (pc := 453) C 3 dL_law_453 rfl rfl ?_
      refine G_iconst (pc := 454) C (v := 1) dL_law_454 (by decide) ?_
      refine G_iadd (pc := 455) C dL_law_455 ?_
      obtain ⟨hi, hw⟩ := hw
      refine G_sld (pc := 456) C hX hz hi dL_law_456 ?_
      refine G_aload_n (pc := 457) C 0 dL_law_457 rfl rfl ?_
      refine G_iload_n (pc := 458) C 3 dL_law_458 rfl rfl ?_
      refine G_iconst (pc := 459) C (v := 2) dL_law_459 (by decide) ?_
      refine G_iadd (pc := 460) C dL_law_460 ?_
      obtain ⟨hi, hw⟩ := hw
      refine G_sld (pc := 461) C hX hz hi dL_law_461 ?_
      obtain ⟨hk, hw⟩ := hw
      refine cl_RL_68 (pc := 462) C (c_X11_cut l z (v1) ((Q.2 ((v3 + (1 : Int32))).toNatClampNeg)) ((Q.2 ((v3 + (2 : Int32))).toNatClampNeg)) S _ hw) ⟨Nat.le_of_ble_eq_true rfl, Nat.le_of_ble_eq_true rfl⟩ hk dL_law_462 (Nat.le_of_ble_eq_true rfl) (fun v S' hp => ?_)
      clear hw
      obtain ⟨e63, rfl, hw⟩ := hp
      generalize S' = S64 at hw ⊢
      refine G_aload_n (pc := 465) C 2 dL_law_465 rfl rfl ?_
      refine G_aload_n (pc := 466) C 0 dL_law_466 rfl rfl ?_
      refine G_iload_n (pc := 467) C 3 dL_law_467 rfl rfl ?_
      refine G_iconst (pc := 468) C (v := 1) dL_law_468 (by decide) ?_
      refine G_iadd (pc := 469) C dL_law_469 ?_
      obtain ⟨hi, hw⟩ := hw
      refine G_sld (pc := 470) C hX hz hi dL_law_470 ?_
      refine G_aload_n (pc := 471) C 0 dL_law_471 rfl rfl ?_
      refine G_iload_n (pc := 472) C 3 dL_law_472 rfl rfl ?_
      refine G_iconst (pc := 473) C (v := 2) dL_law_473 (by decide) ?_
      refine G_iadd (pc := 474) C dL_law_474 ?_
      obtain ⟨hi, hw⟩ := hw
      refine G_sld (pc := 475) C hX hz hi dL_law_475 ?_
      obtain ⟨hk, hw⟩ := hw
      refine cl_RL_71 (pc := 476) C (c_X12_cut l z (v2) ((Q.2 ((v3 + (1 : Int32))).toNatClampNeg)) ((Q.2 ((v3 + (2 : Int32))).toNatClampNeg)) S64 _ hw) ⟨Nat.le_of_ble_eq_true rfl, Nat.le_of_ble_eq_true rfl⟩ hk dL_law_476 (Nat.le_of_ble_eq_true rfl) (fun v S' hp => ?_)
      clear hw
      obtain ⟨e65, rfl, hw⟩ := hp
      generalize S' = S66 at hw ⊢
      refine G_icmp_eq (pc := 479) C 810 dL_law_479 (by decide) (fun hc => ?_) (fun hc => ?_)
      · have hw := hw.1 hc
        exact G_sub [0, 1, 2, 3] rfl (g_L_law_810 C hX hz hK18 hw)
      · have hw := hw.2 hc
        refine G_iconst (pc := 482) C (v := 0) dL_law_482 (by decide) ?_
        rw [hw]
        exact G_lret (pc := 483) C hz dL_law_483
    have hw := hw.2 hc13
    by_cases hc14 : e9 = 14
    · have hw := hw.1 hc14
      refine G_tableIn (pc := 32) C 484 dL_law_32 (by rw [hc14]; decide) (by rw [hc14]; decide) (off := 452) (by rw [hc14]; rfl) (by decide) ?_
      refine G_aload_n (pc := 484) C 1 dL_law_484 rfl rfl ?_
      refine G_aload_n (pc := 485) C 0 dL_law_485 rfl rfl ?_
      refine G_iload_n (pc := 486) C 3 dL_law_486 rfl rfl ?_
      refine G_iconst (pc := 487) C (v := 1) dL_law_487 (by decide) ?_
      refine G_iadd (pc := 488) C dL_law_488 ?_
      obtain ⟨hi, hw⟩ := hw
      refine G_sld (pc := 489) C hX hz hi dL_law_489 ?_
      refine G_aload_n (pc := 490) C 0 dL_law_490 rfl rfl ?_
      refine G_iload_n (pc := 491) C 3 dL_law_491 rfl rfl ?_
      refine G_iconst (pc := 492) C (v := 2) dL_law_492 (by decide) ?_
      refine G_iadd (pc := 493) C dL_law_493 ?_
      obtain ⟨hi, hw⟩ := hw
      refine G_sld (pc := 494) C hX hz hi dL_law_494 ?_
      refine G_aload_n (pc := 495) C 0 dL_law_495 rfl rfl ?_
      refine G_iload_n (pc := 496) C 3 dL_law_496 rfl rfl ?_
      refine G_iconst (pc := 497) C (v := 3) dL_law_497 (by decide) ?_
      refine G_iadd (pc := 498) C dL_law_498 ?_
      obtain ⟨hi, hw⟩ := hw
      refine G_sld (pc := 499) C hX hz hi dL_law_499 ?_
      obtain ⟨hk, hw⟩ := hw
      refine cl_RL_72 (pc := 500) C (c_X11_spoil l z (v1) ((Q.2 ((v3 + (1 : Int32))).toNatClampNeg)) ((Q.2 ((v3 + (2 : Int32))).toNatClampNeg)) ((Q.2 ((v3 + (3 : Int32))).toNatClampNeg)) S _ hw) ⟨Nat.le_of_ble_eq_true rfl, Nat.le_of_ble_eq_true rfl⟩ hk dL_law_500 (Nat.le_of_ble_eq_true rfl) (fun v S' hp => ?_)
      clear hw
      obtain ⟨e67, rfl, hw⟩ := hp
      generalize S' = S68 at hw ⊢
      refine G_aload_n (pc := 503) C 2 dL_law_503 rfl rfl ?_
      refine G_aload_n (pc := 504) C 0 dL_law_504 rfl rfl ?_
      refine G_iload_n (pc := 505) C 3 dL_law_505 rfl rfl ?_
      refine G_iconst (pc := 506) C (v := 1) dL_law_506 (by decide) ?_
      refine G_iadd (pc := 507) C dL_law_507 ?_
      obtain ⟨hi, hw⟩ := hw
      refine G_sld (pc := 508) C hX hz hi dL_law_508 ?_
      refine G_aload_n (pc := 509) C 0 dL_law_509 rfl rfl ?_
      refine G_iload_n (pc := 510) C 3 dL_law_510 rfl rfl ?_
      refine G_iconst (pc := 511) C (v := 2) dL_law_511 (by decide) ?_
      refine G_iadd (pc := 512) C dL_law_512 ?_
      obtain ⟨hi, hw⟩ := hw
      refine G_sld (pc := 513) C hX hz hi dL_law_513 ?_
      refine G_aload_n (pc := 514) C 0 dL_law_514 rfl rfl ?_
      refine G_iload_n (pc := 515) C 3 dL_law_515 rfl rfl ?_
      refine G_iconst (pc := 516) C (v := 3) dL_law_516 (by decide) ?_
      refine G_iadd (pc := 517) C dL_law_517 ?_
      obtain ⟨hi, hw⟩ := hw
      refine G_sld (pc := 518) C hX hz hi dL_law_518 ?_
      obtain ⟨hk, hw⟩ := hw
      refine cl_RL_76 (pc := 519) C (c_X12_spoil l z (v2) ((Q.2 ((v3 + (1 : Int32))).toNatClampNeg)) ((Q.2 ((v3 + (2 : Int32))).toNatClampNeg)) ((Q.2 ((v3 + (3 : Int32))).toNatClampNeg)) S68 _ hw) ⟨Nat.le_of_ble_eq_true rfl, Nat.le_of_ble_eq_true rfl⟩ hk dL_law_519 (Nat.le_of_ble_eq_true rfl) (fun v S' hp => ?_)
      clear hw
      obtain ⟨e69, rfl, hw⟩ := hp
      generalize S' = S70 at hw ⊢
      refine G_icmp_eq (pc := 522) C 810 dL_law_522 (by decide) (fun hc => ?_) (fun hc => ?_)
      · have hw := hw.1 hc
        exact G_sub [0, 1, 2, 3] rfl (g_L_law_810 C hX hz hK18 hw)
      · have hw := hw.2 hc
        refine G_iconst (pc := 525) C (v := 0) dL_law_525 (by decide) ?_
        rw [hw]
        exact G_lret (pc := 526) C hz dL_law_526
    have hw := hw.2 hc14
    by_cases hc15 : e9 = 15
    · have hw := hw.1 hc15
      refine G_tableIn (pc := 32) C 527 dL_law_32 (by rw [hc15]; decide) (by rw [hc15]; decide) (off := 495) (by rw [hc15]; rfl) (by decide) ?_
      refine G_aload_n (pc := 527) C 1 dL_law_527 rfl rfl ?_
      refine G_aload_n (pc := 528) C 0 dL_law_528 rfl rfl ?_
      refine G_iload_n (pc := 529) C 3 dL_law_529 rfl rfl ?_
      refine G_iconst (pc := 530) C (v := 1) dL_law_530 (by decide) ?_
      refine G_iadd (pc := 531) C dL_law_531 ?_
      obtain ⟨hi, hw⟩ := hw
      refine G_sld (pc := 532) C hX hz hi dL_law_532 ?_
      obtain ⟨hk, hw⟩ := hw
      refine cl_RL_77 (pc := 533) C (c_X11_again l z (v1) ((Q.2 ((v3 + (1 : Int32))).toNatClampNeg)) S _ hw) ⟨Nat.le_of_ble_eq_true rfl, Nat.le_of_ble_eq_true rfl⟩ hk dL_law_533 (Nat.le_of_ble_eq_true rfl) (fun v S' hp => ?_)
      clear hw
      obtain ⟨e71, rfl, hw⟩ := hp
      generalize S' = S72 at hw ⊢
      refine G_aload_n (pc := 536) C 2 dL_law_536 rfl rfl ?_
      refine G_aload_n (pc := 537) C 0 dL_law_537 rfl rfl ?_
      refine G_iload_n (pc := 538) C 3 dL_law_538 rfl rfl ?_
      refine G_iconst (pc := 539) C (v := 1) dL_law_539 (by decide) ?_
      refine G_iadd (pc := 540) C dL_law_540 ?_
      obtain ⟨hi, hw⟩ := hw
      refine G_sld (pc := 541) C hX hz hi dL_law_541 ?_
      obtain ⟨hk, hw⟩ := hw
      refine cl_RL_80 (pc := 542) C (c_X12_again l z (v2) ((Q.2 ((v3 + (1 : Int32))).toNatClampNeg)) S72 _ hw) ⟨Nat.le_of_ble_eq_true rfl, Nat.le_of_ble_eq_true rfl⟩ hk dL_law_542 (Nat.le_of_ble_eq_true rfl) (fun v S' hp => ?_)
      clear hw
      obtain ⟨e73, rfl, hw⟩ := hp
      generalize S' = S74 at hw ⊢
      refine G_icmp_eq (pc := 545) C 810 dL_law_545 (by decide) (fun hc => ?_) (fun hc => ?_)
      · have hw := hw.1 hc
        exact G_sub [0, 1, 2, 3] rfl (g_L_law_810 C hX hz hK18 hw)
      · have hw := hw.2 hc
        refine G_iconst (pc := 548) C (v := 0) dL_law_548 (by decide) ?_
        rw [hw]
        exact G_lret (pc := 549) C hz dL_law_549
    have hw := hw.2 hc15
    by_cases hc16 : e9 = 16
    · have hw := hw.1 hc16
      refine G_tableIn (pc := 32) C 550 dL_law_32 (by rw [hc16]; decide) (by rw [hc16]; decide) (off := 518) (by rw [hc16]; rfl) (by decide) ?_
      refine G_aload_n (pc := 550) C 1 dL_law_550 rfl rfl ?_
      obtain ⟨hk, hw⟩ := hw
      refine cl_RL_81 (pc := 551) C (c_X11_undo l z (v1) S _ hw) ⟨Nat.le_of_ble_eq_true rfl, Nat.le_of_ble_eq_true rfl⟩ hk dL_law_551 (Nat.le_of_ble_eq_true rfl) (fun v S' hp => ?_)
      clear hw
      obtain ⟨e75, rfl, hw⟩ := hp
      generalize S' = S76 at hw ⊢
      refine G_aload_n (pc := 554) C 2 dL_law_554 rfl rfl ?_
      obtain ⟨hk, hw⟩ := hw
      refine cl_RL_84 (pc := 555) C (c_X12_undo l z (v2) S76 _ hw) ⟨Nat.le_of_ble_eq_true rfl, Nat.le_of_ble_eq_true rfl⟩ hk dL_law_555 (Nat.le_of_ble_eq_true rfl) (fun v S' hp => ?_)
      clear hw
      obtain ⟨e77, rfl, hw⟩ := hp
      generalize S' = S78 at hw ⊢
      refine G_icmp_eq (pc := 558) C 810 dL_law_558 (by decide) (fun hc => ?_) (fun hc => ?_)
      · have hw := hw.1 hc
        exact G_sub [0, 1, 2, 3] rfl (g_L_law_810 C hX hz hK18 hw)
      · have hw := hw.2 hc
        refine G_iconst (pc := 561) C (v := 0) dL_law_561 (by decide) ?_
        rw [hw]
        exact G_lret (pc := 562) C hz dL_law_562
    have hw := hw.2 hc16
    by_cases hc17 : e9 = 17
    · have hw := hw.1 hc17
      refine G_tableIn (pc := 32) C 563 dL_law_32 (by rw [hc17]; decide) (by rw [hc17]; decide) (off := 531) (by rw [hc17]; rfl) (by decide) ?_
      refine G_aload_n (pc := 563) C 1 dL_law_563 rfl rfl ?_
      refine G_aload_n (pc := 564) C 0 dL_law_564 rfl rfl ?_
      refine G_iload_n (pc := 565) C 3 dL_law_565 rfl rfl ?_
      refine G_iconst (pc := 566) C (v := 1) dL_law_566 (by decide) ?_
      refine G_iadd (pc := 567) C dL_law_567 ?_
      obtain ⟨hi, hw⟩ := hw
      refine G_sld (pc := 568) C hX hz hi dL_law_568 ?_
      refine G_aload_n (pc := 569) C 0 dL_law_569 rfl rfl ?_
      refine G_iload_n (pc := 570) C 3 dL_law_570 rfl rfl ?_
      refine G_iconst (pc := 571) C (v := 2) dL_law_571 (by decide) ?_
      refine G_iadd (pc := 572) C dL_law_572 ?_
      obtain ⟨hi, hw⟩ := hw
      refine G_sld (pc := 573) C hX hz hi dL_law_573 ?_
      obtain ⟨hk, hw⟩ := hw
      refine cl_RL_85 (pc := 574) C (c_X11_number l z (v1) ((Q.2 ((v3 + (1 : Int32))).toNatClampNeg)) ((Q.2 ((v3 + (2 : Int32))).toNatClampNeg)) S _ hw) ⟨Nat.le_of_ble_eq_true rfl, Nat.le_of_ble_eq_true rfl⟩ hk dL_law_574 (Nat.le_of_ble_eq_true rfl) (fun v S' hp => ?_)
      clear hw
      obtain ⟨hS, e79, rfl, hw⟩ := hp
      subst S'
      refine G_aload_n (pc := 577) C 2 dL_law_577 rfl rfl ?_
      refine G_aload_n (pc := 578) C 0 dL_law_578 rfl rfl ?_
      refine G_iload_n (pc := 579) C 3 dL_law_579 rfl rfl ?_
      refine G_iconst (pc := 580) C (v := 1) dL_law_580 (by decide) ?_
      refine G_iadd (pc := 581) C dL_law_581 ?_
      obtain ⟨hi, hw⟩ := hw
      refine G_sld (pc := 582) C hX hz hi dL_law_582 ?_
      refine G_aload_n (pc := 583) C 0 dL_law_583 rfl rfl ?_
      refine G_iload_n (pc := 584) C 3 dL_law_584 rfl rfl ?_
      refine G_iconst (pc := 585) C (v := 2) dL_law_585 (by decide) ?_
      refine G_iadd (pc := 586) C dL_law_586 ?_
      obtain ⟨hi, hw⟩ := hw
      refine G_sld (pc := 587) C hX hz hi dL_law_587 ?_
      obtain ⟨hk, hw⟩ := hw
      refine cl_RL_88 (pc := 588) C (c_X12_number l z (v2) ((Q.2 ((v3 + (1 : Int32))).toNatClampNeg)) ((Q.2 ((v3 + (2 : Int32))).toNatClampNeg)) S _ hw) ⟨Nat.le_of_ble_eq_true rfl, Nat.le_of_ble_eq_true rfl⟩ hk dL_law_588 (Nat.le_of_ble_eq_true rfl) (fun v S' hp => ?_)
      clear hw
      obtain ⟨hS, e81, rfl, hw⟩ := hp
      subst S'
      refine G_icmp_eq (pc := 591) C 810 dL_law_591 (by decide) (fun hc => ?_) (fun hc => ?_)
      · have hw := hw.1 hc
        exact G_sub [0, 1, 2, 3] rfl (g_L_law_810 C hX hz hK18 hw)
      · have hw := hw.2 hc
        refine G_iconst (pc := 594) C (v := 0) dL_law_594 (by decide) ?_
        rw [hw]
        exact G_lret (pc := 595) C hz dL_law_595
    have hw := hw.2 hc17
    by_cases hc18 : e9 = 18
    · have hw := hw.1 hc18
      refine G_tableIn (pc := 32) C 596 dL_law_32 (by rw [hc18]; decide) (by rw [hc18]; decide) (off := 564) (by rw [hc18]; rfl) (by decide) ?_
      refine G_aload_n (pc := 596) C 1 dL_law_596 rfl rfl ?_
      refine G_aload_n (pc := 597) C 0 dL_law_597 rfl rfl ?_
      refine G_iload_n (pc := 598) C 3 dL_law_598 rfl rfl ?_
      refine G_iconst (pc := 599) C (v := 1) dL_law_599 (by decide) ?_
      refine G_iadd (pc := 600) C dL_law_600 ?_
      obtain ⟨hi, hw⟩ := hw
      refine G_sld (pc := 601) C hX hz hi dL_law_601 ?_
      refine G_aload_n (pc := 602) C 0 dL_law_602 rfl rfl ?_
      refine G_iload_n (pc := 603) C 3 dL_law_603 rfl rfl ?_
      refine G_iconst (pc := 604) C (v := 2) dL_law_604 (by decide) ?_
      refine G_iadd (pc := 605) C dL_law_605 ?_
      obtain ⟨hi, hw⟩ := hw
      refine G_sld (pc := 606) C hX hz hi dL_law_606 ?_
      obtain ⟨hk, hw⟩ := hw
      refine cl_RL_89 (pc := 607) C (c_X11_packed l z (v1) ((Q.2 ((v3 + (1 : Int32))).toNatClampNeg)) ((Q.2 ((v3 + (2 : Int32))).toNatClampNeg)) S _ hw) ⟨Nat.le_of_ble_eq_true rfl, Nat.le_of_ble_eq_true rfl⟩ hk dL_law_607 (Nat.le_of_ble_eq_true rfl) (fun v S' hp => ?_)
      clear hw
      obtain ⟨e83, rfl, hw⟩ := hp
      generalize S' = S84 at hw ⊢
      refine G_aload_n (pc := 610) C 2 dL_law_610 rfl rfl ?_
      refine G_aload_n (pc := 611) C 0 dL_law_611 rfl rfl ?_
      refine G_iload_n (pc := 612) C 3 dL_law_612 rfl rfl ?_
      refine G_iconst (pc := 613) C (v := 1) dL_law_613 (by decide) ?_
      refine G_iadd (pc := 614) C dL_law_614 ?_
      obtain ⟨hi, hw⟩ := hw
      refine G_sld (pc := 615) C hX hz hi dL_law_615 ?_
      refine G_aload_n (pc := 616) C 0 dL_law_616 rfl rfl ?_
      refine G_iload_n (pc := 617) C 3 dL_law_617 rfl rfl ?_
      refine G_iconst (pc := 618) C (v := 2) dL_law_618 (by decide) ?_
      refine G_iadd (pc := 619) C dL_law_619 ?_
      obtain ⟨hi, hw⟩ := hw
      refine G_sld (pc := 620) C hX hz hi dL_law_620 ?_
      obtain ⟨hk, hw⟩ := hw
      refine cl_RL_92 (pc := 621) C (c_X12_packed l z (v2) ((Q.2 ((v3 + (1 : Int32))).toNatClampNeg)) ((Q.2 ((v3 + (2 : Int32))).toNatClampNeg)) S84 _ hw) ⟨Nat.le_of_ble_eq_true rfl, Nat.le_of_ble_eq_true rfl⟩ hk dL_law_621 (Nat.le_of_ble_eq_true rfl) (fun v S' hp => ?_)
      clear hw
      obtain ⟨e85, rfl, hw⟩ := hp
      generalize S' = S86 at hw ⊢
      refine G_icmp_eq (pc := 624) C 810 dL_law_624 (by decide) (fun hc => ?_) (fun hc => ?_)
      · have hw := hw.1 hc
        exact G_sub [0, 1, 2, 3] rfl (g_L_law_810 C hX hz hK18 hw)
      · have hw := hw.2 hc
        refine G_iconst (pc := 627) C (v := 0) dL_law_627 (by decide) ?_
        rw [hw]
        exact G_lret (pc := 628) C hz dL_law_628
    have hw := hw.2 hc18
    by_cases hc19 : e9 = 19
    · have hw := hw.1 hc19
      refine G_tableIn (pc := 32) C 629 dL_law_32 (by rw [hc19]; decide) (by rw [hc19]; decide) (off := 597) (by rw [hc19]; rfl) (by decide) ?_
      refine G_aload_n (pc := 629) C 1 dL_law_629 rfl rfl ?_
      refine G_aload_n (pc := 630) C 0 dL_law_630 rfl rfl ?_
      refine G_iload_n (pc := 631) C 3 dL_law_631 rfl rfl ?_
      refine G_iconst (pc := 632) C (v := 1) dL_law_632 (by decide) ?_
      refine G_iadd (pc := 633) C dL_law_633 ?_
      obtain ⟨hi, hw⟩ := hw
      refine G_sld (pc := 634) C hX hz hi dL_law_634 ?_
      refine G_aload_n (pc := 635) C 0 dL_law_635 rfl rfl ?_
      refine G_iload_n (pc := 636) C 3 dL_law_636 rfl rfl ?_
      refine G_iconst (pc := 637) C (v := 2) dL_law_637 (by decide) ?_
      refine G_iadd (pc := 638) C dL_law_638 ?_
      obtain ⟨hi, hw⟩ := hw
      refine G_sld (pc := 639) C hX hz hi dL_law_639 ?_
      obtain ⟨hk, hw⟩ := hw
      refine cl_RL_93 (pc := 640) C (c_X11_read l z (v1) ((Q.2 ((v3 + (1 : Int32))).toNatClampNeg)) ((Q.2 ((v3 + (2 : Int32))).toNatClampNeg)) S _ hw) ⟨Nat.le_of_ble_eq_true rfl, Nat.le_of_ble_eq_true rfl⟩ hk dL_law_640 (Nat.le_of_ble_eq_true rfl) (fun v S' hp => ?_)
      clear hw
      obtain ⟨e87, rfl, hw⟩ := hp
      generalize S' = S88 at hw ⊢
      refine G_aload_n (pc := 643) C 2 dL_law_643 rfl rfl ?_
      refine G_aload_n (pc := 644) C 0 dL_law_644 rfl rfl ?_
      refine G_iload_n (pc := 645) C 3 dL_law_645 rfl rfl ?_
      refine G_iconst (pc := 646) C (v := 1) dL_law_646 (by decide) ?_
      refine G_iadd (pc := 647) C dL_law_647 ?_
      obtain ⟨hi, hw⟩ := hw
      refine G_sld (pc := 648) C hX hz hi dL_law_648 ?_
      refine G_aload_n (pc := 649) C 0 dL_law_649 rfl rfl ?_
      refine G_iload_n (pc := 650) C 3 dL_law_650 rfl rfl ?_
      refine G_iconst (pc := 651) C (v := 2) dL_law_651 (by decide) ?_
      refine G_iadd (pc := 652) C dL_law_652 ?_
      obtain ⟨hi, hw⟩ := hw
      refine G_sld (pc := 653) C hX hz hi dL_law_653 ?_
      obtain ⟨hk, hw⟩ := hw
      refine cl_RL_96 (pc := 654) C (c_X12_read l z (v2) ((Q.2 ((v3 + (1 : Int32))).toNatClampNeg)) ((Q.2 ((v3 + (2 : Int32))).toNatClampNeg)) S88 _ hw) ⟨Nat.le_of_ble_eq_true rfl, Nat.le_of_ble_eq_true rfl⟩ hk dL_law_654 (Nat.le_of_ble_eq_true rfl) (fun v S' hp => ?_)
      clear hw
      obtain ⟨e89, rfl, hw⟩ := hp
      generalize S' = S90 at hw ⊢
      refine G_icmp_eq (pc := 657) C 810 dL_law_657 (by decide) (fun hc => ?_) (fun hc => ?_)
      · have hw := hw.1 hc
        exact G_sub [0, 1, 2, 3] rfl (g_L_law_810 C hX hz hK18 hw)
      · have hw := hw.2 hc
        refine G_iconst (pc := 660) C (v := 0) dL_law_660 (by decide) ?_
        rw [hw]
        exact G_lret (pc := 661) C hz dL_law_661
    have hw := hw.2 hc19
    by_cases hc20 : e9 = 20
    · have hw := hw.1 hc20
      refine G_tableIn (pc := 32) C 662 dL_law_32 (by rw [hc20]; decide) (by rw [hc20]; decide) (off := 630) (by rw [hc20]; rfl) (by decide) ?_
      refine G_aload_n (pc := 662) C 1 dL_law_662 rfl rfl ?_
      refine G_aload_n (pc := 663) C 0 dL_law_663 rfl rfl ?_
      refine G_iload_n (pc := 664) C 3 dL_law_664 rfl rfl ?_
      refine G_iconst (pc := 665) C (v := 1) dL_law_665 (by decide) ?_
      refine G_iadd (pc := 666) C dL_law_666 ?_
      obtain ⟨hi, hw⟩ := hw
      refine G_sld (pc := 667) C hX hz hi dL_law_667 ?_
      refine G_aload_n (pc := 668) C 0 dL_law_668 rfl rfl ?_
      refine G_iload_n (pc := 669) C 3 dL_law_669 rfl rfl ?_
      refine G_iconst (pc := 670) C (v := 2) dL_law_670 (by decide) ?_
      refine G_iadd (pc := 671) C dL_law_671 ?_
      obtain ⟨hi, hw⟩ := hw
      refine G_sld (pc := 672) C hX hz hi dL_law_672 ?_
      obtain ⟨hk, hw⟩ := hw
      refine cl_RL_97 (pc := 673) C (c_X11_mended l z (v1) ((Q.2 ((v3 + (1 : Int32))).toNatClampNeg)) ((Q.2 ((v3 + (2 : Int32))).toNatClampNeg)) S _ hw) ⟨Nat.le_of_ble_eq_true rfl, Nat.le_of_ble_eq_true rfl⟩ hk dL_law_673 (Nat.le_of_ble_eq_true rfl) (fun v S' hp => ?_)
      clear hw
      obtain ⟨e91, rfl, hw⟩ := hp
      generalize S' = S92 at hw ⊢
      refine G_aload_n (pc := 676) C 2 dL_law_676 rfl rfl ?_
      refine G_aload_n (pc := 677) C 0 dL_law_677 rfl rfl ?_
      refine G_iload_n (pc := 678) C 3 dL_law_678 rfl rfl ?_
      refine G_iconst (pc := 679) C (v := 1) dL_law_679 (by decide) ?_
      refine G_iadd (pc := 680) C dL_law_680 ?_
      obtain ⟨hi, hw⟩ := hw
      refine G_sld (pc := 681) C hX hz hi dL_law_681 ?_
      refine G_aload_n (pc := 682) C 0 dL_law_682 rfl rfl ?_
      refine G_iload_n (pc := 683) C 3 dL_law_683 rfl rfl ?_
      refine G_iconst (pc := 684) C (v := 2) dL_law_684 (by decide) ?_
      refine G_iadd (pc := 685) C dL_law_685 ?_
      obtain ⟨hi, hw⟩ := hw
      refine G_sld (pc := 686) C hX hz hi dL_law_686 ?_
      obtain ⟨hk, hw⟩ := hw
      refine cl_RL_100 (pc := 687) C (c_X12_mended l z (v2) ((Q.2 ((v3 + (1 : Int32))).toNatClampNeg)) ((Q.2 ((v3 + (2 : Int32))).toNatClampNeg)) S92 _ hw) ⟨Nat.le_of_ble_eq_true rfl, Nat.le_of_ble_eq_true rfl⟩ hk dL_law_687 (Nat.le_of_ble_eq_true rfl) (fun v S' hp => ?_)
      clear hw
      obtain ⟨e93, rfl, hw⟩ := hp
      generalize S' = S94 at hw ⊢
      refine G_icmp_eq (pc := 690) C 810 dL_law_690 (by decide) (fun hc => ?_) (fun hc => ?_)
      · have hw := hw.1 hc
        exact G_sub [0, 1, 2, 3] rfl (g_L_law_810 C hX hz hK18 hw)
      · have hw := hw.2 hc
        refine G_iconst (pc := 693) C (v := 0) dL_law_693 (by decide) ?_
        rw [hw]
        exact G_lret (pc := 694) C hz dL_law_694
    have hw := hw.2 hc20
    by_cases hc21 : e9 = 21
    · have hw := hw.1 hc21
      refine G_tableIn (pc := 32) C 695 dL_law_32 (by rw [hc21]; decide) (by rw [hc21]; decide) (off := 663) (by rw [hc21]; rfl) (by decide) ?_
      refine G_aload_n (pc := 695) C 1 dL_law_695 rfl rfl ?_
      refine G_aload_n (pc := 696) C 0 dL_law_696 rfl rfl ?_
      refine G_iload_n (pc := 697) C 3 dL_law_697 rfl rfl ?_
      refine G_iconst (pc := 698) C (v := 1) dL_law_698 (by decide) ?_
      refine G_iadd (pc := 699) C dL_law_699 ?_
      obtain ⟨hi, hw⟩ := hw
      refine G_sld (pc := 700) C hX hz hi dL_law_700 ?_
      obtain ⟨hk, hw⟩ := hw
      refine cl_RL_101 (pc := 701) C (c_X11_blamed l z (v1) ((Q.2 ((v3 + (1 : Int32))).toNatClampNeg)) S _ hw) ⟨Nat.le_of_ble_eq_true rfl, Nat.le_of_ble_eq_true rfl⟩ hk dL_law_701 (Nat.le_of_ble_eq_true rfl) (fun v S' hp => ?_)
      clear hw
      obtain ⟨e95, rfl, hw⟩ := hp
      generalize S' = S96 at hw ⊢
      refine G_aload_n (pc := 704) C 2 dL_law_704 rfl rfl ?_
      refine G_aload_n (pc := 705) C 0 dL_law_705 rfl rfl ?_
      refine G_iload_n (pc := 706) C 3 dL_law_706 rfl rfl ?_
      refine G_iconst (pc := 707) C (v := 1) dL_law_707 (by decide) ?_
      refine G_iadd (pc := 708) C dL_law_708 ?_
      obtain ⟨hi, hw⟩ := hw
      refine G_sld (pc := 709) C hX hz hi dL_law_709 ?_
      obtain ⟨hk, hw⟩ := hw
      refine cl_RL_104 (pc := 710) C (c_X12_blamed l z (v2) ((Q.2 ((v3 + (1 : Int32))).toNatClampNeg)) S96 _ hw) ⟨Nat.le_of_ble_eq_true rfl, Nat.le_of_ble_eq_true rfl⟩ hk dL_law_710 (Nat.le_of_ble_eq_true rfl) (fun v S' hp => ?_)
      clear hw
      obtain ⟨e97, rfl, hw⟩ := hp
      generalize S' = S98 at hw ⊢
      refine G_icmp_eq (pc := 713) C 810 dL_law_713 (by decide) (fun hc => ?_) (fun hc => ?_)
      · have hw := hw.1 hc
        exact G_sub [0, 1, 2, 3] rfl (g_L_law_810 C hX hz hK18 hw)
      · have hw := hw.2 hc
        refine G_iconst (pc := 716) C (v := 0) dL_law_716 (by decide) ?_
        rw [hw]
        exact G_lret (pc := 717) C hz dL_law_717
    have hw := hw.2 hc21
    by_cases hc22 : e9 = 22
    · have hw := hw.1 hc22
      refine G_tableIn (pc := 32) C 718 dL_law_32 (by rw [hc22]; decide) (by rw [hc22]; decide) (off := 686) (by rw [hc22]; rfl) (by decide) ?_
      refine G_aload_n (pc := 718) C 1 dL_law_718 rfl rfl ?_
      refine G_aload_n (pc := 719) C 0 dL_law_719 rfl rfl ?_
      refine G_iload_n (pc := 720) C 3 dL_law_720 rfl rfl ?_
      refine G_iconst (pc := 721) C (v := 1) dL_law_721 (by decide) ?_
      refine G_iadd (pc := 722) C dL_law_722 ?_
      obtain ⟨hi, hw⟩ := hw
      refine G_sld (pc := 723) C hX hz hi dL_law_723 ?_
      obtain ⟨hk, hw⟩ := hw
      refine cl_RL_105 (pc := 724) C (c_X11_opened l z (v1) ((Q.2 ((v3 + (1 : Int32))).toNatClampNeg)) S _ hw) ⟨Nat.le_of_ble_eq_true rfl, Nat.le_of_ble_eq_true rfl⟩ hk dL_law_724 (Nat.le_of_ble_eq_true rfl) (fun v S' hp => ?_)
      clear hw
      obtain ⟨hS, e99, rfl, hw⟩ := hp
      subst S'
      refine G_aload_n (pc := 727) C 2 dL_law_727 rfl rfl ?_
      refine G_aload_n (pc := 728) C 0 dL_law_728 rfl rfl ?_
      refine G_iload_n (pc := 729) C 3 dL_law_729 rfl rfl ?_
      refine G_iconst (pc := 730) C (v := 1) dL_law_730 (by decide) ?_
      refine G_iadd (pc := 731) C dL_law_731 ?_
      obtain ⟨hi, hw⟩ := hw
      refine G_sld (pc := 732) C hX hz hi dL_law_732 ?_
      obtain ⟨hk, hw⟩ := hw
      refine cl_RL_108 (pc := 733) C (c_X12_opened l z (v2) ((Q.2 ((v3 + (1 : Int32))).toNatClampNeg)) S _ hw) ⟨Nat.le_of_ble_eq_true rfl, Nat.le_of_ble_eq_true rfl⟩ hk dL_law_733 (Nat.le_of_ble_eq_true rfl) (fun v S' hp => ?_)
      clear hw
      obtain ⟨hS, e101, rfl, hw⟩ := hp
      subst S'
      refine G_icmp_eq (pc := 736) C 810 dL_law_736 (by decide) (fun hc => ?_) (fun hc => ?_)
      · have hw := hw.1 hc
        exact G_sub [0, 1, 2, 3] rfl (g_L_law_810 C hX hz hK18 hw)
      · have hw := hw.2 hc
        refine G_iconst (pc := 739) C (v := 0) dL_law_739 (by decide) ?_
        rw [hw]
        exact G_lret (pc := 740) C hz dL_law_740
    have hw := hw.2 hc22
    by_cases hc23 : e9 = 23
    · have hw := hw.1 hc23
      refine G_tableIn (pc := 32) C 741 dL_law_32 (by rw [hc23]; decide) (by rw [hc23]; decide) (off := 709) (by rw [hc23]; rfl) (by decide) ?_
      refine G_aload_n (pc := 741) C 1 dL_law_741 rfl rfl ?_
      refine G_aload_n (pc := 742) C 0 dL_law_742 rfl rfl ?_
      refine G_iload_n (pc := 743) C 3 dL_law_743 rfl rfl ?_
      refine G_iconst (pc := 744) C (v := 1) dL_law_744 (by decide) ?_
      refine G_iadd (pc := 745) C dL_law_745 ?_
      obtain ⟨hi, hw⟩ := hw
      refine G_sld (pc := 746) C hX hz hi dL_law_746 ?_
      obtain ⟨hk, hw⟩ := hw
      refine cl_RL_109 (pc := 747) C (c_X11_plan l z (v1) ((Q.2 ((v3 + (1 : Int32))).toNatClampNeg)) S _ hw) ⟨Nat.le_of_ble_eq_true rfl, Nat.le_of_ble_eq_true rfl⟩ hk dL_law_747 (Nat.le_of_ble_eq_true rfl) (fun v S' hp => ?_)
      clear hw
      obtain ⟨e103, rfl, hw⟩ := hp
      generalize S' = S104 at hw ⊢
      refine G_aload_n (pc := 750) C 2 dL_law_750 rfl rfl ?_
      refine G_aload_n (pc := 751) C 0 dL_law_751 rfl rfl ?_
      refine G_iload_n (pc := 752) C 3 dL_law_752 rfl rfl ?_
      refine G_iconst (pc := 753) C (v := 1) dL_law_753 (by decide) ?_
      refine G_iadd (pc := 754) C dL_law_754 ?_
      obtain ⟨hi, hw⟩ := hw
      refine G_sld (pc := 755) C hX hz hi dL_law_755 ?_
      obtain ⟨hk, hw⟩ := hw
      refine cl_RL_112 (pc := 756) C (c_X12_plan l z (v2) ((Q.2 ((v3 + (1 : Int32))).toNatClampNeg)) S104 _ hw) ⟨Nat.le_of_ble_eq_true rfl, Nat.le_of_ble_eq_true rfl⟩ hk dL_law_756 (Nat.le_of_ble_eq_true rfl) (fun v S' hp => ?_)
      clear hw
      obtain ⟨e105, rfl, hw⟩ := hp
      generalize S' = S106 at hw ⊢
      refine G_icmp_eq (pc := 759) C 810 dL_law_759 (by decide) (fun hc => ?_) (fun hc => ?_)
      · have hw := hw.1 hc
        exact G_sub [0, 1, 2, 3] rfl (g_L_law_810 C hX hz hK18 hw)
      · have hw := hw.2 hc
        refine G_iconst (pc := 762) C (v := 0) dL_law_762 (by decide) ?_
        rw [hw]
        exact G_lret (pc := 763) C hz dL_law_763
    have hw := hw.2 hc23
    by_cases hc24 : e9 = 24
    · have hw := hw.1 hc24
      refine G_tableIn (pc := 32) C 764 dL_law_32 (by rw [hc24]; decide) (by rw [hc24]; decide) (off := 732) (by rw [hc24]; rfl) (by decide) ?_
      refine G_aload_n (pc := 764) C 1 dL_law_764 rfl rfl ?_
      refine G_aload_n (pc := 765) C 0 dL_law_765 rfl rfl ?_
      refine G_iload_n (pc := 766) C 3 dL_law_766 rfl rfl ?_
      refine G_iconst (pc := 767) C (v := 1) dL_law_767 (by decide) ?_
      refine G_iadd (pc := 768) C dL_law_768 ?_
      obtain ⟨hi, hw⟩ := hw
      refine G_sld (pc := 769) C hX hz hi dL_law_769 ?_
      obtain ⟨hk, hw⟩ := hw
      refine cl_RL_113 (pc := 770) C (c_X11_lesser l z (v1) ((Q.2 ((v3 + (1 : Int32))).toNatClampNeg)) S _ hw) ⟨Nat.le_of_ble_eq_true rfl, Nat.le_of_ble_eq_true rfl⟩ hk dL_law_770 (Nat.le_of_ble_eq_true rfl) (fun v S' hp => ?_)
      clear hw
      obtain ⟨hS, e107, rfl, hw⟩ := hp
      subst S'
      refine G_aload_n (pc := 773) C 2 dL_law_773 rfl rfl ?_
      refine G_aload_n (pc := 774) C 0 dL_law_774 rfl rfl ?_
      refine G_iload_n (pc := 775) C 3 dL_law_775 rfl rfl ?_
      refine G_iconst (pc := 776) C (v := 1) dL_law_776 (by decide) ?_
      refine G_iadd (pc := 777) C dL_law_777 ?_
      obtain ⟨hi, hw⟩ := hw
      refine G_sld (pc := 778) C hX hz hi dL_law_778 ?_
      obtain ⟨hk, hw⟩ := hw
      refine cl_RL_116 (pc := 779) C (c_X12_lesser l z (v2) ((Q.2 ((v3 + (1 : Int32))).toNatClampNeg)) S _ hw) ⟨Nat.le_of_ble_eq_true rfl, Nat.le_of_ble_eq_true rfl⟩ hk dL_law_779 (Nat.le_of_ble_eq_true rfl) (fun v S' hp => ?_)
      clear hw
      obtain ⟨hS, e109, rfl, hw⟩ := hp
      subst S'
      refine G_icmp_eq (pc := 782) C 810 dL_law_782 (by decide) (fun hc => ?_) (fun hc => ?_)
      · have hw := hw.1 hc
        exact G_sub [0, 1, 2, 3] rfl (g_L_law_810 C hX hz hK18 hw)
      · have hw := hw.2 hc
        refine G_iconst (pc := 785) C (v := 0) dL_law_785 (by decide) ?_
        rw [hw]
        exact G_lret (pc := 786) C hz dL_law_786
    have hw := hw.2 hc24
    by_cases hc25 : e9 = 25
    · have hw := hw.1 hc25
      refine G_tableIn (pc := 32) C 787 dL_law_32 (by rw [hc25]; decide) (by rw [hc25]; decide) (off := 755) (by rw [hc25]; rfl) (by decide) ?_
      refine G_aload_n (pc := 787) C 1 dL_law_787 rfl rfl ?_
      refine G_aload_n (pc := 788) C 0 dL_law_788 rfl rfl ?_
      refine G_iload_n (pc := 789) C 3 dL_law_789 rfl rfl ?_
      refine G_iconst (pc := 790) C (v := 1) dL_law_790 (by decide) ?_
      refine G_iadd (pc := 791) C dL_law_791 ?_
      obtain ⟨hi, hw⟩ := hw
      refine G_sld (pc := 792) C hX hz hi dL_law_792 ?_
      obtain ⟨hk, hw⟩ := hw
      refine cl_RL_117 (pc := 793) C (c_X11_count l z (v1) ((Q.2 ((v3 + (1 : Int32))).toNatClampNeg)) S _ hw) ⟨Nat.le_of_ble_eq_true rfl, Nat.le_of_ble_eq_true rfl⟩ hk dL_law_793 (Nat.le_of_ble_eq_true rfl) (fun v S' hp => ?_)
      clear hw
      obtain ⟨e111, rfl, hw⟩ := hp
      generalize S' = S112 at hw ⊢
      refine G_aload_n (pc := 796) C 2 dL_law_796 rfl rfl ?_
      refine G_aload_n (pc := 797) C 0 dL_law_797 rfl rfl ?_
      refine G_iload_n (pc := 798) C 3 dL_law_798 rfl rfl ?_
      refine G_iconst (pc := 799) C (v := 1) dL_law_799 (by decide) ?_
      refine G_iadd (pc := 800) C dL_law_800 ?_
      obtain ⟨hi, hw⟩ := hw
      refine G_sld (pc := 801) C hX hz hi dL_law_801 ?_
      obtain ⟨hk, hw⟩ := hw
      refine cl_RL_120 (pc := 802) C (c_X12_count l z (v2) ((Q.2 ((v3 + (1 : Int32))).toNatClampNeg)) S112 _ hw) ⟨Nat.le_of_ble_eq_true rfl, Nat.le_of_ble_eq_true rfl⟩ hk dL_law_802 (Nat.le_of_ble_eq_true rfl) (fun v S' hp => ?_)
      clear hw
      obtain ⟨e113, rfl, hw⟩ := hp
      generalize S' = S114 at hw ⊢
      refine G_icmp_eq (pc := 805) C 810 dL_law_805 (by decide) (fun hc => ?_) (fun hc => ?_)
      · have hw := hw.1 hc
        exact G_sub [0, 1, 2, 3] rfl (g_L_law_810 C hX hz hK18 hw)
      · have hw := hw.2 hc
        refine G_iconst (pc := 808) C (v := 0) dL_law_808 (by decide) ?_
        rw [hw]
        exact G_lret (pc := 809) C hz dL_law_809
    have hw := hw.2 hc25
    refine G_tableOut (pc := 32) C 810 dL_law_32 (by have k0 := ne_ti hc0 (by decide : (0 : Int32).toInt = 0); have k1 := ne_ti hc1 (by decide : (1 : Int32).toInt = 1); have k2 := ne_ti hc2 (by decide : (2 : Int32).toInt = 2); have k3 := ne_ti hc3 (by decide : (3 : Int32).toInt = 3); have k4 := ne_ti hc4 (by decide : (4 : Int32).toInt = 4); have k5 := ne_ti hc5 (by decide : (5 : Int32).toInt = 5); have k6 := ne_ti hc6 (by decide : (6 : Int32).toInt = 6); have k7 := ne_ti hc7 (by decide : (7 : Int32).toInt = 7); have k8 := ne_ti hc8 (by decide : (8 : Int32).toInt = 8); have k9 := ne_ti hc9 (by decide : (9 : Int32).toInt = 9); have k10 := ne_ti hc10 (by decide : (10 : Int32).toInt = 10); have k11 := ne_ti hc11 (by decide : (11 : Int32).toInt = 11); have k12 := ne_ti hc12 (by decide : (12 : Int32).toInt = 12); have k13 := ne_ti hc13 (by decide : (13 : Int32).toInt = 13); have k14 := ne_ti hc14 (by decide : (14 : Int32).toInt = 14); have k15 := ne_ti hc15 (by decide : (15 : Int32).toInt = 15); have k16 := ne_ti hc16 (by decide : (16 : Int32).toInt = 16); have k17 := ne_ti hc17 (by decide : (17 : Int32).toInt = 17); have k18 := ne_ti hc18 (by decide : (18 : Int32).toInt = 18); have k19 := ne_ti hc19 (by decide : (19 : Int32).toInt = 19); have k20 := ne_ti hc20 (by decide : (20 : Int32).toInt = 20); have k21 := ne_ti hc21 (by decide : (21 : Int32).toInt = 21); have k22 := ne_ti hc22 (by decide : (22 : Int32).toInt = 22); have k23 := ne_ti hc23 (by decide : (23 : Int32).toInt = 23); have k24 := ne_ti hc24 (by decide : (24 : Int32).toInt = 24); have k25 := ne_ti hc25 (by decide : (25 : Int32).toInt = 25); omega) (by decide) ?_
    exact G_sub [0, 1, 2, 3] rfl (g_L_law_810 C hX hz hK18 hw)
set_option maxHeartbeats 4000000 in
set_option maxRecDepth 100000 in
theorem g_L_law_18 {Q : Nat × (Nat → Int32)} (C : Cx p s m #[Value.ref b] meth c z cL_law 4 RL ret meth.name) (hX : va_X b Q.1 Q.2 s s.heap ∧ b < s.heap.size) (hz : zb z = s.heap.size)  {v1 : Nat} {v2 : Nat} {v3 : Int32} {S : Hp} {bc bs : Nat}   (hw : wp_L_law_18  Q v1 v2 v3 S bc bs) : Go p l e room_1 s m #[Value.ref b] below meth c z 4 (lw_Z below #[Value.ref b] s) (bc) (bs) 18 [(0, .ref b), (1, .ref (v1)), (2, .ref (v2)), (3, .int (v3))] [] (S) :=
  Lp_go (G := fun y : Int32 × Hp × Nat × Nat => Go p l e room_1 s m #[Value.ref b] below meth c z 4 (lw_Z below #[Value.ref b] s) (y.2.2.1) (y.2.2.2) 18 [(0, .ref b), (1, .ref (v1)), (2, .ref (v2)), (3, .int (y.1))] [] (y.2.1)) (fun K y hK hB => gb_L_law_18 C hX hz  (fun w0 w1 w2 w3 h => hK (w0, w1, w2, w3) h) hB) hw
set_option maxHeartbeats 4000000 in
set_option maxRecDepth 100000 in
theorem g_L_law {Q : Nat × (Nat → Int32)} (C : Cx p s m #[Value.ref b] meth c z cL_law 4 RL ret meth.name) (hX : va_X b Q.1 Q.2 s s.heap ∧ b < s.heap.size) (hz : zb z = s.heap.size) {S : Hp} (hw : wp_L_law S Q) : Go p l e room_1 s m #[Value.ref b] below meth c z 4 (lw_Z below #[Value.ref b] s) (600000) (7302250) 0 [(0, .ref b)] [] (S) := by
  obtain ⟨hb1, hb2, hw⟩ := hw
  refine G_less (bc' := (600000 - 1) + 1) (bs' := (7302250 - 7) + 7) (by omega) (by omega) ?_
  refine nw_RL_7 (pc := 0) C dL_law_0 ?_
  obtain ⟨n1, hn1⟩ : ∃ y : Nat, y = sz S := ⟨_, rfl⟩
  obtain ⟨S2, hS2⟩ : ∃ y : Hp, y = nw S 12 (0) := ⟨_, rfl⟩
  have hw := hw n1 hn1 S2 hS2
  rw [← hn1]
  rw [← hS2]
  clear hn1 hS2
  refine G_dup (pc := 3) C dL_law_3 rfl ?_
  obtain ⟨hb1, hb2, hw⟩ := hw
  refine G_less (bc' := ((600000 - 1) - 126) + 126) (bs' := ((7302250 - 7) - 1898) + 1898) (by omega) (by omega) ?_
  refine cl_RL_9 (pc := 4) C (c_X11_init l z (n1) S2 _ hw) ⟨Nat.le_of_ble_eq_true rfl, Nat.le_of_ble_eq_true rfl⟩ dL_law_4 (Nat.le_of_ble_eq_true rfl) (fun v S' hp => ?_)
  clear hw
  obtain ⟨rfl, hw⟩ := hp
  generalize S' = S4 at hw ⊢
  refine G_astore_n (pc := 7) C [(1, .ref (n1)), (0, .ref b)] dL_law_7 rfl (by decide) rfl ?_
  obtain ⟨hb1, hb2, hw⟩ := hw
  refine G_less (bc' := (((600000 - 1) - 126) - 1) + 1) (bs' := (((7302250 - 7) - 1898) - 14) + 14) (by omega) (by omega) ?_
  refine nw_RL_10 (pc := 8) C dL_law_8 ?_
  obtain ⟨n5, hn5⟩ : ∃ y : Nat, y = sz S4 := ⟨_, rfl⟩
  obtain ⟨S6, hS6⟩ : ∃ y : Hp, y = nw S4 13 (0) := ⟨_, rfl⟩
  have hw := hw n5 hn5 S6 hS6
  rw [← hn5]
  rw [← hS6]
  clear hn5 hS6
  refine G_dup (pc := 11) C dL_law_11 rfl ?_
  obtain ⟨hb1, hb2, hw⟩ := hw
  refine G_less (bc' := ((((600000 - 1) - 126) - 1) - 7) + 7) (bs' := ((((7302250 - 7) - 1898) - 14) - 7464) + 7464) (by omega) (by omega) ?_
  refine cl_RL_12 (pc := 12) C (c_X12_init l z (n5) S6 _ hw) ⟨Nat.le_of_ble_eq_true rfl, Nat.le_of_ble_eq_true rfl⟩ dL_law_12 (Nat.le_of_ble_eq_true rfl) (fun v S' hp => ?_)
  clear hw
  obtain ⟨rfl, hw⟩ := hp
  generalize S' = S8 at hw ⊢
  refine G_astore_n (pc := 15) C [(2, .ref (n5)), (1, .ref (n1)), (0, .ref b)] dL_law_15 rfl (by decide) rfl ?_
  refine G_iconst (pc := 16) C (v := 0) dL_law_16 (by decide) ?_
  refine G_istore_n (pc := 17) C [(3, .int ((0 : Int32))), (2, .ref (n5)), (1, .ref (n1)), (0, .ref b)] dL_law_17 rfl (by decide) rfl ?_
  exact G_sub [3, 2, 1, 0] rfl (g_L_law_18 C hX hz  hw)
end LAWW
