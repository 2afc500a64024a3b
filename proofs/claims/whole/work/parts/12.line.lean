section W12lineleantxt
variable {p : Program} {l : Launch} {e : Env} {R : Room} {s : State} {m : MethodId} {args : Array Value} {below : List Frame} {meth : Method} {c : Code} {z : Zt} {cc : ByteArray} {nL : Nat} {ow : String} {ret : Option FieldType} {nm : String} {Q : State → Prop} {bc bs pc : Nat} {lv : List (Nat × Value)} {st : List Value} {S : Hp}
theorem dsc_X5_init : dsc yX5_init 3 := ⟨by decide, by decide, by decide +kernel⟩
theorem cl_RX2_17 (C : Cx p s m args meth c z cc nL RX2 ret nm) {a : Nat} {q0 : Nat} {q1 : Int32} {q2 : Int32} {rest : List Value} {post : Option Value → Hp → Prop} (hm : Ct l z yX5_init cX5_init 4 none 1 20 0 0 [.ref a, .ref (q0), .int (q1), .int (q2)] S post) (hR : 1 + 1 ≤ R.frames ∧ 8 + (4 + 11) + 20 ≤ R.locals) (hd : decode cc pc = .ok (.invokespecial 17, 3)) (hW : (rest.map fun v => v.category).sum ≤ 8) (k : ∀ (v : Option Value) (S' : Hp), post v S' → Go p l e R s m args below meth c z nL Q bc bs (pc + 3) lv (v.toList ++ rest) S') : Go p l e R s m args below meth c z nL Q bc bs pc lv (.int (q2) :: .int (q1) :: .ref (q0) :: .ref a :: rest) S := G_callI C rfl (gt_t 116 (by decide +kernel) rfl) (gt_t 117 (by decide +kernel) rfl) (gt_t 6 (by decide +kernel) rfl) (gt_t 118 (by decide +kernel) rfl) (dsc_X5_init) hm rfl hR rfl hW hd k
theorem cw_RX2_9 : Cond.classLink RX2 9 "FirstParts$Part" ∈ gt := gt_t 113 (by decide +kernel) rfl
theorem gf_RX2_11 (C : Cx p s m args meth c z cc nL RX2 ret nm) {a : Nat} (hd : decode cc pc = .ok (.getfield 11, 3)) (hk : kd S a = 3) (k : Go p l e R s m args below meth c z nL Q bc bs (pc + 3) lv (va_rf (gR S 33 a 0) :: st) S) : Go p l e R s m args below meth c z nL Q bc bs pc lv (.ref a :: st) S := G_getR C 2 0 4 rfl rfl (by decide) in_X2 rfl rfl (gt_t 139 (by decide +kernel) rfl) hd hk k
theorem nw_RX2_9 (C : Cx p s m args meth c z cc nL RX2 ret nm) (hd : decode cc pc = .ok (.new 9, 3)) (k : Go p l e R s m args below meth c z nL Q bc bs (pc + 3) lv (.ref (sz S) :: st) (nw S 6 0)) : Go p l e R s m args below meth c z nL Q (bc + 1) (bs + 3) pc lv st S := G_new C 5 3 rfl rfl in_X5 tyX5 tyX5_ok (by decide) (gt_t 113 (by decide +kernel) rfl) (gt_t 115 (by decide +kernel) rfl) (gt_t 6 (by decide +kernel) rfl) hd k
theorem oi_RX2_3 : Cond.methodLink RX2 3 Lib.objectInit ∈ gt := gt_t 112 (by decide +kernel) rfl
theorem pf_RX2_11 (C : Cx p s m args meth c z cc nL RX2 ret nm) {a : Nat} {v : Option Nat} (hfn : nm = "<init>") (hd : decode cc pc = .ok (.putfield 11, 3)) (hk : kd S a = 3) (k : Go p l e R s m args below meth c z nL Q bc bs (pc + 3) lv st (sR S 33 a 0 v)) : Go p l e R s m args below meth c z nL Q bc bs pc lv (va_rf v :: .ref a :: st) S := G_putR C 2 0 4 rfl rfl (by decide) in_X2 tyX2 tyX2_ok nmX2 rfl rfl (gt_t 139 (by decide +kernel) rfl) (Or.inr ⟨rfl, hfn, rfl⟩) (fun _ => rfl) rfl (fun _ => rfl) rfl hd hk k
theorem pf_RX2_20 (C : Cx p s m args meth c z cc nL RX2 ret nm) {a : Nat} {v : Int32} (hd : decode cc pc = .ok (.putfield 20, 3)) (hk : kd S a = 3) (k : Go p l e R s m args below meth c z nL Q bc bs (pc + 3) lv st (sI S 34 a 0 v)) : Go p l e R s m args below meth c z nL Q bc bs pc lv (.int v :: .ref a :: st) S := G_putI C 2 1 4 rfl rfl (by decide) in_X2 tyX2 tyX2_ok nmX2 rfl rfl (gt_t 143 (by decide +kernel) rfl) (Or.inl rfl) rfl rfl hd hk k
theorem pf_RX2_24 (C : Cx p s m args meth c z cc nL RX2 ret nm) {a : Nat} {v : Int32} (hd : decode cc pc = .ok (.putfield 24, 3)) (hk : kd S a = 3) (k : Go p l e R s m args below meth c z nL Q bc bs (pc + 3) lv st (sI S 35 a 0 v)) : Go p l e R s m args below meth c z nL Q bc bs pc lv (.int v :: .ref a :: st) S := G_putI C 2 2 4 rfl rfl (by decide) in_X2 tyX2 tyX2_ok nmX2 rfl rfl (gt_t 146 (by decide +kernel) rfl) (Or.inl rfl) rfl rfl hd hk k
theorem pf_RX2_27 (C : Cx p s m args meth c z cc nL RX2 ret nm) {a : Nat} {v : Int32} (hd : decode cc pc = .ok (.putfield 27, 3)) (hk : kd S a = 3) (k : Go p l e R s m args below meth c z nL Q bc bs (pc + 3) lv st (sI S 36 a 0 v)) : Go p l e R s m args below meth c z nL Q bc bs pc lv (.int v :: .ref a :: st) S := G_putI C 2 3 4 rfl rfl (by decide) in_X2 tyX2 tyX2_ok nmX2 rfl rfl (gt_t 149 (by decide +kernel) rfl) (Or.inl rfl) rfl rfl hd hk k
theorem gf_RX2_20 (C : Cx p s m args meth c z cc nL RX2 ret nm) {a : Nat} (hd : decode cc pc = .ok (.getfield 20, 3)) (hk : kd S a = 3) (k : Go p l e R s m args below meth c z nL Q bc bs (pc + 3) lv (.int (gI S 34 a 0) :: st) S) : Go p l e R s m args below meth c z nL Q bc bs pc lv (.ref a :: st) S := G_getI C 2 1 4 rfl rfl (by decide) in_X2 rfl rfl (gt_t 143 (by decide +kernel) rfl) hd hk k
theorem gf_RX2_24 (C : Cx p s m args meth c z cc nL RX2 ret nm) {a : Nat} (hd : decode cc pc = .ok (.getfield 24, 3)) (hk : kd S a = 3) (k : Go p l e R s m args below meth c z nL Q bc bs (pc + 3) lv (.int (gI S 35 a 0) :: st) S) : Go p l e R s m args below meth c z nL Q bc bs pc lv (.ref a :: st) S := G_getI C 2 2 4 rfl rfl (by decide) in_X2 rfl rfl (gt_t 146 (by decide +kernel) rfl) hd hk k
theorem gf_RX2_27 (C : Cx p s m args meth c z cc nL RX2 ret nm) {a : Nat} (hd : decode cc pc = .ok (.getfield 27, 3)) (hk : kd S a = 3) (k : Go p l e R s m args below meth c z nL Q bc bs (pc + 3) lv (.int (gI S 36 a 0) :: st) S) : Go p l e R s m args below meth c z nL Q bc bs pc lv (.ref a :: st) S := G_getI C 2 3 4 rfl rfl (by decide) in_X2 rfl rfl (gt_t 149 (by decide +kernel) rfl) hd hk k
theorem cl_RX2_30 (C : Cx p s m args meth c z cc nL RX2 ret nm) {q0 : Int32} {q1 : Int32} {q2 : Int32} {rest : List Value} {post : Option Value → Hp → Prop} (hm : Ct l z yX11_within cX11_within 3 (some .boolean) 0 0 0 0 [.int (q0), .int (q1), .int (q2)] S post) (hR : 0 + 1 ≤ R.frames ∧ 8 + (3 + 11) + 0 ≤ R.locals) (hd : decode cc pc = .ok (.invokestatic 30, 3)) (hW : (rest.map fun v => v.category).sum ≤ 8) (k : ∀ (v : Option Value) (S' : Hp), post v S' → Go p l e R s m args below meth c z nL Q bc bs (pc + 3) lv (v.toList ++ rest) S') : Go p l e R s m args below meth c z nL Q bc bs pc lv (.int (q2) :: .int (q1) :: .int (q0) :: rest) S := G_callN C (by decide) (gt_t 271 (by decide +kernel) rfl) (gt_t 1 (by decide +kernel) rfl) (gt_t 272 (by decide +kernel) rfl) (dsc_X11_within) hm rfl hR rfl hW hd k
theorem dsc_X5_stripes : dsc yX5_stripes 0 := ⟨by decide, by decide, by decide +kernel⟩
theorem cl_RX2_34 (C : Cx p s m args meth c z cc nL RX2 ret nm) {a : Nat}  {rest : List Value} {post : Option Value → Hp → Prop} (hm : Ct l z yX5_stripes cX5_stripes 1 (some .int) 1 21 0 0 [.ref a] S post) (hR : 1 + 1 ≤ R.frames ∧ 8 + (1 + 11) + 21 ≤ R.locals) (hk : kd S a = 6) (hd : decode cc pc = .ok (.invokevirtual 34, 3)) (hW : (rest.map fun v => v.category).sum ≤ 8) (k : ∀ (v : Option Value) (S' : Hp), post v S' → Go p l e R s m args below meth c z nL Q bc bs (pc + 3) lv (v.toList ++ rest) S') : Go p l e R s m args below meth c z nL Q bc bs pc lv (.ref a :: rest) S := G_callV C 5 3 rfl rfl (gt_t 592 (by decide +kernel) rfl) (gt_t 228 (by decide +kernel) rfl) (gt_t 229 (by decide +kernel) rfl) (gt_t 6 (by decide +kernel) rfl) (gt_t 230 (by decide +kernel) rfl) (dsc_X5_stripes) hm rfl hR hk rfl hW hd k
theorem gf_RX2_38 (C : Cx p s m args meth c z cc nL RX2 ret nm) {a : Nat} (hd : decode cc pc = .ok (.getfield 38, 3)) (hk : kd S a = 6) (k : Go p l e R s m args below meth c z nL Q bc bs (pc + 3) lv (.int (gI S 83 a 0) :: st) S) : Go p l e R s m args below meth c z nL Q bc bs pc lv (.ref a :: st) S := G_getI C 5 2 3 rfl rfl (by decide) in_X5 rfl rfl (gt_t 131 (by decide +kernel) rfl) hd hk k
theorem gf_RX2_41 (C : Cx p s m args meth c z cc nL RX2 ret nm) {a : Nat} (hd : decode cc pc = .ok (.getfield 41, 3)) (hk : kd S a = 6) (k : Go p l e R s m args below meth c z nL Q bc bs (pc + 3) lv (.int (gI S 82 a 0) :: st) S) : Go p l e R s m args below meth c z nL Q bc bs pc lv (.ref a :: st) S := G_getI C 5 1 3 rfl rfl (by decide) in_X5 rfl rfl (gt_t 127 (by decide +kernel) rfl) hd hk k
theorem dsc_X2_length : dsc yX2_length 0 := ⟨by decide, by decide, by decide +kernel⟩
theorem cl_RX2_44 (C : Cx p s m args meth c z cc nL RX2 ret nm) {a : Nat}  {rest : List Value} {post : Option Value → Hp → Prop} (hm : Ct l z yX2_length cX2_length 3 (some .int) 2 41 0 0 [.ref a] S post) (hR : 2 + 1 ≤ R.frames ∧ 8 + (3 + 11) + 41 ≤ R.locals) (hk : kd S a = 3) (hd : decode cc pc = .ok (.invokevirtual 44, 3)) (hW : (rest.map fun v => v.category).sum ≤ 8) (k : ∀ (v : Option Value) (S' : Hp), post v S' → Go p l e R s m args below meth c z nL Q bc bs (pc + 3) lv (v.toList ++ rest) S') : Go p l e R s m args below meth c z nL Q bc bs pc lv (.ref a :: rest) S := G_callV C 2 4 rfl rfl (gt_t 588 (by decide +kernel) rfl) (gt_t 589 (by decide +kernel) rfl) (gt_t 590 (by decide +kernel) rfl) (gt_t 5 (by decide +kernel) rfl) (gt_t 591 (by decide +kernel) rfl) (dsc_X2_length) hm rfl hR hk rfl hW hd k
theorem dsc_X2_weightWithin : dsc yX2_weightWithin 2 := ⟨by decide, by decide, by decide +kernel⟩
theorem cl_RX2_47 (C : Cx p s m args meth c z cc nL RX2 ret nm) {a : Nat} {q0 : Int32} {q1 : Int32} {rest : List Value} {post : Option Value → Hp → Prop} (hm : Ct l z yX2_weightWithin cX2_weightWithin 6 (some .int) 2 41 0 0 [.ref a, .int (q0), .int (q1)] S post) (hR : 2 + 1 ≤ R.frames ∧ 8 + (6 + 11) + 41 ≤ R.locals) (hk : kd S a = 3) (hd : decode cc pc = .ok (.invokevirtual 47, 3)) (hW : (rest.map fun v => v.category).sum ≤ 8) (k : ∀ (v : Option Value) (S' : Hp), post v S' → Go p l e R s m args below meth c z nL Q bc bs (pc + 3) lv (v.toList ++ rest) S') : Go p l e R s m args below meth c z nL Q bc bs pc lv (.int (q1) :: .int (q0) :: .ref a :: rest) S := G_callV C 2 4 rfl rfl (gt_t 800 (by decide +kernel) rfl) (gt_t 802 (by decide +kernel) rfl) (gt_s 18 (by decide +kernel) rfl) (gt_t 5 (by decide +kernel) rfl) (gt_t 803 (by decide +kernel) rfl) (dsc_X2_weightWithin) hm rfl hR hk rfl hW hd k
/-! FirstParts$Line.<init>()V -/
abbrev wb_X2_init_28  (K28 : Int32 → Hp → Nat → Nat → Prop) (Q : Hp → Prop) (v0 : Nat) (v1 : Nat) (v2 : Int32) (S : Hp) (bc bs : Nat) : Prop :=
  (((6 : Int32) ≤ v2 → kd S v0 = 3 ∧ ∀ S10 : Hp, S10 = sI S 34 v0 0 (0 : Int32) → kd S10 v0 = 3 ∧ ∀ S11 : Hp, S11 = sI S10 35 v0 0 (4 : Int32) → kd S11 v0 = 3 ∧ ∀ S12 : Hp, S12 = sI S11 36 v0 0 (20 : Int32) → Q S12) ∧ (¬ (6 : Int32) ≤ v2 → kd S v0 = 3 ∧ ∃ b13, (gR S 33 v0 0) = some b13 ∧ kd S b13 = 23 ∧ kd S v1 = 6 ∧ vp_in v2 (ln S b13) ∧ ∀ S14 : Hp, S14 = sR S 0 b13 (v2).toNatClampNeg (some v1) → ∀ e15 : Int32, e15 = (v2 + 1) → K28 (e15) (S14) (bc) (bs)))
abbrev wp_X2_init_28  (Q : Hp → Prop) (v0 : Nat) (v1 : Nat) (v2 : Int32) (S : Hp) (bc bs : Nat) : Prop :=
  Lp (X := Int32 × Hp × Nat × Nat) (fun K y => wb_X2_init_28  (fun w0 w1 w2 w3 => K (w0, w1, w2, w3)) Q v0 v1 y.1 y.2.1 (y.2.2.1) (y.2.2.2)) (v2, S, bc, bs)
abbrev wp_X2_init (a0 : Nat) (S : Hp) (Q : Hp → Prop) : Prop :=
  1 ≤ 3 ∧ 6 ≤ 9 ∧ ∀ n1 : Nat, n1 = sz S → ∀ S2 : Hp, S2 = nw S 23 (6) → kd S2 a0 = 3 ∧ ∀ S3 : Hp, S3 = sR S2 33 a0 0 (some n1) → 1 ≤ (3 - 1) ∧ 3 ≤ (9 - 6) ∧ ∀ n4 : Nat, n4 = sz S3 → ∀ S5 : Hp, S5 = nw S3 6 (0) → 1 ≤ ((3 - 1) - 1) ∧ 0 ≤ ((9 - 6) - 3) ∧ ∀ n6 : Nat, n6 = sz S5 → ∀ S7 : Hp, S7 = nw S5 20 (0) → wp_X5_init (n4) (n6) ((1 : Int32)) ((1 : Int32)) S7 (fun S9 => wp_X2_init_28 Q (a0) (n4) ((0 : Int32)) (S9) ((((3 - 1) - 1) - 1)) ((((9 - 6) - 3) - 0)))
set_option maxHeartbeats 4000000 in
set_option maxRecDepth 100000 in
theorem gb_X2_init_28 (C : Cx p s m args meth c z cX2_init 3 RX2 none "<init>") {K28 : Int32 → Hp → Nat → Nat → Prop} {Q : Hp → Prop} {v0 : Nat} {v1 : Nat} {v2 : Int32} {S : Hp} {bc bs : Nat}  (hK28 : ∀ (w2 : Int32) (S2 : Hp) (bc2 bs2 : Nat), K28 w2 S2 bc2 bs2 → Go p l e { frames := 2, cells := 3, slots := 9, locals := 43 } s m args below meth c z 3 (MQ below (Qx z (wV Q)) args s 3 9 (own z)) (bc2) (bs2) 28 [(0, .ref (v0)), (1, .ref (v1)), (2, .int (w2))] [] (S2)) (hw : wb_X2_init_28  K28 Q v0 v1 v2 S bc bs) : Go p l e { frames := 2, cells := 3, slots := 9, locals := 43 } s m args below meth c z 3 (MQ below (Qx z (wV Q)) args s 3 9 (own z)) (bc) (bs) 28 [(0, .ref (v0)), (1, .ref (v1)), (2, .int (v2))] [] (S) := by
  refine G_iload_n (pc := 28) C 2 dX2_init_28 rfl rfl ?_
  refine G_bipush (pc := 29) C (v := 6) dX2_init_29 (by decide) ?_
  refine G_icmp_ge (pc := 31) C 47 dX2_init_31 (by decide) (fun hc => ?_) (fun hc => ?_)
  · have hw := hw.1 hc
    refine G_aload_n (pc := 47) C 0 dX2_init_47 rfl rfl ?_
    refine G_iconst (pc := 48) C (v := 0) dX2_init_48 (by decide) ?_
    obtain ⟨hk, hw⟩ := hw
    refine pf_RX2_20 (pc := 49) C dX2_init_49 hk ?_
    obtain ⟨S10, hS10⟩ : ∃ y : Hp, y = sI S 34 v0 0 (0 : Int32) := ⟨_, rfl⟩
    have hw := hw S10 hS10
    rw [← hS10]
    clear hS10
    refine G_aload_n (pc := 52) C 0 dX2_init_52 rfl rfl ?_
    refine G_iconst (pc := 53) C (v := 4) dX2_init_53 (by decide) ?_
    obtain ⟨hk, hw⟩ := hw
    refine pf_RX2_24 (pc := 54) C dX2_init_54 hk ?_
    obtain ⟨S11, hS11⟩ : ∃ y : Hp, y = sI S10 35 v0 0 (4 : Int32) := ⟨_, rfl⟩
    have hw := hw S11 hS11
    rw [← hS11]
    clear hS11
    refine G_aload_n (pc := 57) C 0 dX2_init_57 rfl rfl ?_
    refine G_bipush (pc := 58) C (v := 20) dX2_init_58 (by decide) ?_
    obtain ⟨hk, hw⟩ := hw
    refine pf_RX2_27 (pc := 60) C dX2_init_60 hk ?_
    obtain ⟨S12, hS12⟩ : ∃ y : Hp, y = sI S11 36 v0 0 (20 : Int32) := ⟨_, rfl⟩
    have hw := hw S12 hS12
    rw [← hS12]
    clear hS12
    exact G_vret (pc := 63) C rfl dX2_init_63 ⟨rfl, hw⟩
  · have hw := hw.2 hc
    refine G_aload_n (pc := 34) C 0 dX2_init_34 rfl rfl ?_
    obtain ⟨hk, hw⟩ := hw
    refine gf_RX2_11 (pc := 35) C dX2_init_35 hk ?_
    refine G_iload_n (pc := 38) C 2 dX2_init_38 rfl rfl ?_
    refine G_aload_n (pc := 39) C 1 dX2_init_39 rfl rfl ?_
    obtain ⟨b13, hq, hw⟩ := hw
    rw [hq]
    obtain ⟨hk, hv, hi, hw⟩ := hw
    refine G_aast (pc := 40) C 3 5 3 rfl (by decide) rfl rfl hk hv hi dX2_init_40 ?_
    obtain ⟨S14, hS14⟩ : ∃ y : Hp, y = sR S 0 b13 (v2).toNatClampNeg (some v1) := ⟨_, rfl⟩
    have hw := hw S14 hS14
    rw [← hS14]
    clear hS14
    obtain ⟨e15, he15⟩ : ∃ y : Int32, y = (v2 + 1) := ⟨_, rfl⟩
    have hw := hw e15 he15
    refine G_iinc (pc := 41) C [(2, .int (e15)), (0, .ref (v0)), (1, .ref (v1))] 2 (v := e15) dX2_init_41 rfl (by rw [he15]; rfl) (by decide) rfl ?_
    clear he15
    refine G_goto (pc := 44) C 28 dX2_init_44 (by decide) ?_
    exact G_sub [1, 2, 0] rfl (hK28 _ _ _ _ hw)
set_option maxHeartbeats 4000000 in
set_option maxRecDepth 100000 in
theorem g_X2_init_28 (C : Cx p s m args meth c z cX2_init 3 RX2 none "<init>")  {Q : Hp → Prop} {v0 : Nat} {v1 : Nat} {v2 : Int32} {S : Hp} {bc bs : Nat}   (hw : wp_X2_init_28  Q v0 v1 v2 S bc bs) : Go p l e { frames := 2, cells := 3, slots := 9, locals := 43 } s m args below meth c z 3 (MQ below (Qx z (wV Q)) args s 3 9 (own z)) (bc) (bs) 28 [(0, .ref (v0)), (1, .ref (v1)), (2, .int (v2))] [] (S) :=
  Lp_go (G := fun y : Int32 × Hp × Nat × Nat => Go p l e { frames := 2, cells := 3, slots := 9, locals := 43 } s m args below meth c z 3 (MQ below (Qx z (wV Q)) args s 3 9 (own z)) (y.2.2.1) (y.2.2.2) 28 [(0, .ref (v0)), (1, .ref (v1)), (2, .int (y.1))] [] (y.2.1)) (fun K y hK hB => gb_X2_init_28 C  (fun w0 w1 w2 w3 h => hK (w0, w1, w2, w3) h) hB) hw
set_option maxHeartbeats 4000000 in
set_option maxRecDepth 100000 in
theorem c_X2_init (l : Launch) (z : Zt) (a0 : Nat) (S : Hp) (Q : Hp → Prop) (hw : wp_X2_init a0 S Q) : Ct l z yX2_init cX2_init 3 none 2 43 3 9 [.ref (a0)] S (wV Q) := by
  refine Ct_of (by decide) (Nat.le_of_ble_eq_true rfl) ?_
  intro p e s m args below meth c C
  have C : Cx p s m args meth c z cX2_init 3 RX2 none "<init>" := C
  refine G_sub (lv' := [(0, .ref (a0))]) [0] rfl ?_
  refine G_aload_n (pc := 0) C 0 dX2_init_0 rfl rfl ?_
  refine G_objInit (pc := 1) C oi_RX2_3 (by decide) (by decide) dX2_init_1 ?_
  refine G_aload_n (pc := 4) C 0 dX2_init_4 rfl rfl ?_
  refine G_bipush (pc := 5) C (v := 6) dX2_init_5 (by decide) ?_
  obtain ⟨hb1, hb2, hw⟩ := hw
  refine G_less (bc' := (3 - 1) + 1) (bs' := (9 - 6) + 6) (by omega) (by omega) ?_
  refine G_anew (pc := 7) C (n := (6 : Int32)) 3 6 rfl (by decide) (by decide) cw_RX2_9 (by decide) (by decide) (by decide) dX2_init_7 ?_
  obtain ⟨n1, hn1⟩ : ∃ y : Nat, y = sz S := ⟨_, rfl⟩
  obtain ⟨S2, hS2⟩ : ∃ y : Hp, y = nw S 23 (6) := ⟨_, rfl⟩
  have hw := hw n1 hn1 S2 hS2
  rw [← hn1]
  rw [← hS2]
  clear hn1 hS2
  obtain ⟨hk, hw⟩ := hw
  refine pf_RX2_11 (pc := 10) C rfl (v := some n1) dX2_init_10 hk ?_
  obtain ⟨S3, hS3⟩ : ∃ y : Hp, y = sR S2 33 a0 0 (some n1) := ⟨_, rfl⟩
  have hw := hw S3 hS3
  rw [← hS3]
  clear hS3
  obtain ⟨hb1, hb2, hw⟩ := hw
  refine G_less (bc' := ((3 - 1) - 1) + 1) (bs' := ((9 - 6) - 3) + 3) (by omega) (by omega) ?_
  refine nw_RX2_9 (pc := 13) C dX2_init_13 ?_
  obtain ⟨n4, hn4⟩ : ∃ y : Nat, y = sz S3 := ⟨_, rfl⟩
  obtain ⟨S5, hS5⟩ : ∃ y : Hp, y = nw S3 6 (0) := ⟨_, rfl⟩
  have hw := hw n4 hn4 S5 hS5
  rw [← hn4]
  rw [← hS5]
  clear hn4 hS5
  refine G_dup (pc := 16) C dX2_init_16 rfl ?_
  refine G_iconst (pc := 17) C (v := 0) dX2_init_17 (by decide) ?_
  obtain ⟨hb1, hb2, hw⟩ := hw
  refine G_less (bc' := (((3 - 1) - 1) - 1) + 1) (bs' := (((9 - 6) - 3) - 0) + 0) (by omega) (by omega) ?_
  refine G_newa (pc := 18) C (n := (0 : Int32)) 0 w_aI (by decide) (by decide) (by decide) dX2_init_18 ?_
  obtain ⟨n6, hn6⟩ : ∃ y : Nat, y = sz S5 := ⟨_, rfl⟩
  obtain ⟨S7, hS7⟩ : ∃ y : Hp, y = nw S5 20 (0) := ⟨_, rfl⟩
  have hw := hw n6 hn6 S7 hS7
  rw [← hn6]
  rw [← hS7]
  clear hn6 hS7
  refine G_iconst (pc := 20) C (v := 1) dX2_init_20 (by decide) ?_
  refine G_iconst (pc := 21) C (v := 1) dX2_init_21 (by decide) ?_
  refine cl_RX2_17 (pc := 22) C (c_X5_init l z (n4) (n6) ((1 : Int32)) ((1 : Int32)) S7 _ hw) ⟨Nat.le_of_ble_eq_true rfl, Nat.le_of_ble_eq_true rfl⟩ dX2_init_22 (Nat.le_of_ble_eq_true rfl) (fun v S' hp => ?_)
  clear hw
  obtain ⟨rfl, hw⟩ := hp
  generalize S' = S9 at hw ⊢
  refine G_astore_n (pc := 25) C [(1, .ref (n4)), (0, .ref (a0))] dX2_init_25 rfl (by decide) rfl ?_
  refine G_iconst (pc := 26) C (v := 0) dX2_init_26 (by decide) ?_
  refine G_istore_n (pc := 27) C [(2, .int ((0 : Int32))), (1, .ref (n4)), (0, .ref (a0))] dX2_init_27 rfl (by decide) rfl ?_
  exact G_sub [2, 1, 0] rfl (g_X2_init_28 C  hw)
/-! FirstParts$Line.beginAnew()V -/
abbrev wp_X2_beginAnew (a0 : Nat) (S : Hp) (Q : Hp → Prop) : Prop :=
  kd S a0 = 3 ∧ ∀ S1 : Hp, S1 = sI S 34 a0 0 (0 : Int32) → kd S1 a0 = 3 ∧ ∀ S2 : Hp, S2 = sI S1 35 a0 0 (4 : Int32) → kd S2 a0 = 3 ∧ ∀ S3 : Hp, S3 = sI S2 36 a0 0 (20 : Int32) → Q S3
set_option maxHeartbeats 4000000 in
set_option maxRecDepth 100000 in
theorem c_X2_beginAnew (l : Launch) (z : Zt) (a0 : Nat) (S : Hp) (Q : Hp → Prop) (hw : wp_X2_beginAnew a0 S Q) : Ct l z yX2_beginAnew cX2_beginAnew 1 none 0 0 0 0 [.ref (a0)] S (wV Q) := by
  refine Ct_of (by decide) (Nat.le_of_ble_eq_true rfl) ?_
  intro p e s m args below meth c C
  have C : Cx p s m args meth c z cX2_beginAnew 1 RX2 none "beginAnew" := C
  refine G_sub (lv' := [(0, .ref (a0))]) [0] rfl ?_
  refine G_aload_n (pc := 0) C 0 dX2_beginAnew_0 rfl rfl ?_
  refine G_iconst (pc := 1) C (v := 0) dX2_beginAnew_1 (by decide) ?_
  obtain ⟨hk, hw⟩ := hw
  refine pf_RX2_20 (pc := 2) C dX2_beginAnew_2 hk ?_
  obtain ⟨S1, hS1⟩ : ∃ y : Hp, y = sI S 34 a0 0 (0 : Int32) := ⟨_, rfl⟩
  have hw := hw S1 hS1
  rw [← hS1]
  clear hS1
  refine G_aload_n (pc := 5) C 0 dX2_beginAnew_5 rfl rfl ?_
  refine G_iconst (pc := 6) C (v := 4) dX2_beginAnew_6 (by decide) ?_
  obtain ⟨hk, hw⟩ := hw
  refine pf_RX2_24 (pc := 7) C dX2_beginAnew_7 hk ?_
  obtain ⟨S2, hS2⟩ : ∃ y : Hp, y = sI S1 35 a0 0 (4 : Int32) := ⟨_, rfl⟩
  have hw := hw S2 hS2
  rw [← hS2]
  clear hS2
  refine G_aload_n (pc := 10) C 0 dX2_beginAnew_10 rfl rfl ?_
  refine G_bipush (pc := 11) C (v := 20) dX2_beginAnew_11 (by decide) ?_
  obtain ⟨hk, hw⟩ := hw
  refine pf_RX2_27 (pc := 13) C dX2_beginAnew_13 hk ?_
  obtain ⟨S3, hS3⟩ : ∃ y : Hp, y = sI S2 36 a0 0 (20 : Int32) := ⟨_, rfl⟩
  have hw := hw S3 hS3
  rw [← hS3]
  clear hS3
  exact G_vret (pc := 16) C rfl dX2_beginAnew_16 ⟨rfl, hw⟩
/-! FirstParts$Line.copyOf(LFirstParts$Line;)V -/
abbrev wb_X2_copyOf_2  (K2 : Int32 → Hp → Prop) (Q : Hp → Prop) (v0 : Nat) (v1 : Nat) (v2 : Int32) (S : Hp) : Prop :=
  (((6 : Int32) ≤ v2 → kd S v1 = 3 ∧ kd S v0 = 3 ∧ ∀ S1 : Hp, S1 = sI S 34 v0 0 (gI S 34 v1 0) → kd S1 v1 = 3 ∧ kd S1 v0 = 3 ∧ ∀ S2 : Hp, S2 = sI S1 35 v0 0 (gI S1 35 v1 0) → kd S2 v1 = 3 ∧ kd S2 v0 = 3 ∧ ∀ S3 : Hp, S3 = sI S2 36 v0 0 (gI S2 36 v1 0) → Q S3) ∧ (¬ (6 : Int32) ≤ v2 → kd S v0 = 3 ∧ kd S v1 = 3 ∧ ∃ b4, (gR S 33 v1 0) = some b4 ∧ kd S b4 = 23 ∧ vp_in v2 (ln S b4) ∧ ∃ b5, (gR S 33 v0 0) = some b5 ∧ ∃ b6, (gR S 0 b4 (v2).toNatClampNeg) = some b6 ∧ kd S b5 = 23 ∧ kd S b6 = 6 ∧ vp_in v2 (ln S b5) ∧ ∀ S7 : Hp, S7 = sR S 0 b5 (v2).toNatClampNeg (some b6) → ∀ e8 : Int32, e8 = (v2 + 1) → K2 (e8) (S7)))
abbrev wp_X2_copyOf_2  (Q : Hp → Prop) (v0 : Nat) (v1 : Nat) (v2 : Int32) (S : Hp) : Prop :=
  Lp (X := Int32 × Hp) (fun K y => wb_X2_copyOf_2  (fun w0 w1 => K (w0, w1)) Q v0 v1 y.1 y.2) (v2, S)
abbrev wp_X2_copyOf (a0 : Nat) (a1 : Nat) (S : Hp) (Q : Hp → Prop) : Prop :=
  wp_X2_copyOf_2 Q (a0) (a1) ((0 : Int32)) (S)
set_option maxHeartbeats 4000000 in
set_option maxRecDepth 100000 in
theorem gb_X2_copyOf_2 (C : Cx p s m args meth c z cX2_copyOf 3 RX2 none "copyOf") {K2 : Int32 → Hp → Prop} {Q : Hp → Prop} {v0 : Nat} {v1 : Nat} {v2 : Int32} {S : Hp}  (hK2 : ∀ (w2 : Int32) (S2 : Hp), K2 w2 S2 → Go p l e { frames := 0, cells := 0, slots := 0, locals := 0 } s m args below meth c z 3 (MQ below (Qx z (wV Q)) args s 0 0 (own z)) (0) (0) 2 [(0, .ref (v0)), (1, .ref (v1)), (2, .int (w2))] [] (S2)) (hw : wb_X2_copyOf_2  K2 Q v0 v1 v2 S) : Go p l e { frames := 0, cells := 0, slots := 0, locals := 0 } s m args below meth c z 3 (MQ below (Qx z (wV Q)) args s 0 0 (own z)) (0) (0) 2 [(0, .ref (v0)), (1, .ref (v1)), (2, .int (v2))] [] (S) := by
  refine G_iload_n (pc := 2) C 2 dX2_copyOf_2 rfl rfl ?_
  refine G_bipush (pc := 3) C (v := 6) dX2_copyOf_3 (by decide) ?_
  refine G_icmp_ge (pc := 5) C 26 dX2_copyOf_5 (by decide) (fun hc => ?_) (fun hc => ?_)
  · have hw := hw.1 hc
    refine G_aload_n (pc := 26) C 0 dX2_copyOf_26 rfl rfl ?_
    refine G_aload_n (pc := 27) C 1 dX2_copyOf_27 rfl rfl ?_
    obtain ⟨hk, hw⟩ := hw
    refine gf_RX2_20 (pc := 28) C dX2_copyOf_28 hk ?_
    obtain ⟨hk, hw⟩ := hw
    refine pf_RX2_20 (pc := 31) C dX2_copyOf_31 hk ?_
    obtain ⟨S1, hS1⟩ : ∃ y : Hp, y = sI S 34 v0 0 (gI S 34 v1 0) := ⟨_, rfl⟩
    have hw := hw S1 hS1
    rw [← hS1]
    clear hS1
    refine G_aload_n (pc := 34) C 0 dX2_copyOf_34 rfl rfl ?_
    refine G_aload_n (pc := 35) C 1 dX2_copyOf_35 rfl rfl ?_
    obtain ⟨hk, hw⟩ := hw
    refine gf_RX2_24 (pc := 36) C dX2_copyOf_36 hk ?_
    obtain ⟨hk, hw⟩ := hw
    refine pf_RX2_24 (pc := 39) C dX2_copyOf_39 hk ?_
    obtain ⟨S2, hS2⟩ : ∃ y : Hp, y = sI S1 35 v0 0 (gI S1 35 v1 0) := ⟨_, rfl⟩
    have hw := hw S2 hS2
    rw [← hS2]
    clear hS2
    refine G_aload_n (pc := 42) C 0 dX2_copyOf_42 rfl rfl ?_
    refine G_aload_n (pc := 43) C 1 dX2_copyOf_43 rfl rfl ?_
    obtain ⟨hk, hw⟩ := hw
    refine gf_RX2_27 (pc := 44) C dX2_copyOf_44 hk ?_
    obtain ⟨hk, hw⟩ := hw
    refine pf_RX2_27 (pc := 47) C dX2_copyOf_47 hk ?_
    obtain ⟨S3, hS3⟩ : ∃ y : Hp, y = sI S2 36 v0 0 (gI S2 36 v1 0) := ⟨_, rfl⟩
    have hw := hw S3 hS3
    rw [← hS3]
    clear hS3
    exact G_vret (pc := 50) C rfl dX2_copyOf_50 ⟨rfl, hw⟩
  · have hw := hw.2 hc
    refine G_aload_n (pc := 8) C 0 dX2_copyOf_8 rfl rfl ?_
    obtain ⟨hk, hw⟩ := hw
    refine gf_RX2_11 (pc := 9) C dX2_copyOf_9 hk ?_
    refine G_iload_n (pc := 12) C 2 dX2_copyOf_12 rfl rfl ?_
    refine G_aload_n (pc := 13) C 1 dX2_copyOf_13 rfl rfl ?_
    obtain ⟨hk, hw⟩ := hw
    refine gf_RX2_11 (pc := 14) C dX2_copyOf_14 hk ?_
    refine G_iload_n (pc := 17) C 2 dX2_copyOf_17 rfl rfl ?_
    obtain ⟨b4, hq, hw⟩ := hw
    rw [hq]
    obtain ⟨hk, hi, hw⟩ := hw
    refine G_aald (pc := 18) C 3 rfl (by decide) rfl hk hi dX2_copyOf_18 ?_
    obtain ⟨b5, hq, hw⟩ := hw
    rw [hq]
    obtain ⟨b6, hq, hw⟩ := hw
    rw [hq]
    obtain ⟨hk, hv, hi, hw⟩ := hw
    refine G_aast (pc := 19) C 3 5 3 rfl (by decide) rfl rfl hk hv hi dX2_copyOf_19 ?_
    obtain ⟨S7, hS7⟩ : ∃ y : Hp, y = sR S 0 b5 (v2).toNatClampNeg (some b6) := ⟨_, rfl⟩
    have hw := hw S7 hS7
    rw [← hS7]
    clear hS7
    obtain ⟨e8, he8⟩ : ∃ y : Int32, y = (v2 + 1) := ⟨_, rfl⟩
    have hw := hw e8 he8
    refine G_iinc (pc := 20) C [(2, .int (e8)), (0, .ref (v0)), (1, .ref (v1))] 2 (v := e8) dX2_copyOf_20 rfl (by rw [he8]; rfl) (by decide) rfl ?_
    clear he8
    refine G_goto (pc := 23) C 2 dX2_copyOf_23 (by decide) ?_
    exact G_sub [1, 2, 0] rfl (hK2 _ _ hw)
set_option maxHeartbeats 4000000 in
set_option maxRecDepth 100000 in
theorem g_X2_copyOf_2 (C : Cx p s m args meth c z cX2_copyOf 3 RX2 none "copyOf")  {Q : Hp → Prop} {v0 : Nat} {v1 : Nat} {v2 : Int32} {S : Hp}   (hw : wp_X2_copyOf_2  Q v0 v1 v2 S) : Go p l e { frames := 0, cells := 0, slots := 0, locals := 0 } s m args below meth c z 3 (MQ below (Qx z (wV Q)) args s 0 0 (own z)) (0) (0) 2 [(0, .ref (v0)), (1, .ref (v1)), (2, .int (v2))] [] (S) :=
  Lp_go (G := fun y : Int32 × Hp => Go p l e { frames := 0, cells := 0, slots := 0, locals := 0 } s m args below meth c z 3 (MQ below (Qx z (wV Q)) args s 0 0 (own z)) (0) (0) 2 [(0, .ref (v0)), (1, .ref (v1)), (2, .int (y.1))] [] (y.2)) (fun K y hK hB => gb_X2_copyOf_2 C  (fun w0 w1 h => hK (w0, w1) h) hB) hw
set_option maxHeartbeats 4000000 in
set_option maxRecDepth 100000 in
theorem c_X2_copyOf (l : Launch) (z : Zt) (a0 : Nat) (a1 : Nat) (S : Hp) (Q : Hp → Prop) (hw : wp_X2_copyOf a0 a1 S Q) : Ct l z yX2_copyOf cX2_copyOf 3 none 0 0 0 0 [.ref (a0), .ref (a1)] S (wV Q) := by
  refine Ct_of (by decide) (Nat.le_of_ble_eq_true rfl) ?_
  intro p e s m args below meth c C
  have C : Cx p s m args meth c z cX2_copyOf 3 RX2 none "copyOf" := C
  refine G_sub (lv' := [(0, .ref (a0)), (1, .ref (a1))]) [0, 1] rfl ?_
  refine G_iconst (pc := 0) C (v := 0) dX2_copyOf_0 (by decide) ?_
  refine G_istore_n (pc := 1) C [(2, .int ((0 : Int32))), (0, .ref (a0)), (1, .ref (a1))] dX2_copyOf_1 rfl (by decide) rfl ?_
  exact G_sub [1, 2, 0] rfl (g_X2_copyOf_2 C  hw)
/-! FirstParts$Line.has(I)Z -/
abbrev wp_X2_has (a0 : Nat) (x1 : Int32) (S : Hp) (Q : Int32 → Prop) : Prop :=
  kd S a0 = 3 ∧ wp_X11_within (x1) ((0 : Int32)) (((gI S 34 a0 0) - (1 : Int32))) S (fun e1 => (e1 = 0 ∨ e1 = 1) ∧ Q e1)
set_option maxHeartbeats 4000000 in
set_option maxRecDepth 100000 in
theorem c_X2_has (l : Launch) (z : Zt) (a0 : Nat) (x1 : Int32) (S : Hp) (Q : Int32 → Prop) (hw : wp_X2_has a0 x1 S Q) : Ct l z yX2_has cX2_has 2 (some .boolean) 1 22 0 0 [.ref (a0), .int (x1)] S (pI S Q) := by
  refine Ct_of (by decide) (Nat.le_of_ble_eq_true rfl) ?_
  intro p e s m args below meth c C
  have C : Cx p s m args meth c z cX2_has 2 RX2 (some .boolean) "has" := C
  refine G_sub (lv' := [(0, .ref (a0)), (1, .int (x1))]) [0, 1] rfl ?_
  refine G_iload_n (pc := 0) C 1 dX2_has_0 rfl rfl ?_
  refine G_iconst (pc := 1) C (v := 0) dX2_has_1 (by decide) ?_
  refine G_aload_n (pc := 2) C 0 dX2_has_2 rfl rfl ?_
  obtain ⟨hk, hw⟩ := hw
  refine gf_RX2_20 (pc := 3) C dX2_has_3 hk ?_
  refine G_iconst (pc := 6) C (v := 1) dX2_has_6 (by decide) ?_
  refine G_isub (pc := 7) C dX2_has_7 ?_
  refine cl_RX2_30 (pc := 8) C (c_X11_within l z (x1) ((0 : Int32)) (((gI S 34 a0 0) - (1 : Int32))) S _ hw) ⟨Nat.le_of_ble_eq_true rfl, Nat.le_of_ble_eq_true rfl⟩ dX2_has_8 (Nat.le_of_ble_eq_true rfl) (fun v S' hp => ?_)
  clear hw
  obtain ⟨hS, e1, rfl, hw⟩ := hp
  subst S'
  obtain ⟨hb, hw⟩ := hw
  exact G_zret (pc := 11) C rfl hb dX2_has_11 ⟨rfl, _, rfl, hw⟩
/-! FirstParts$Line.append(LFirstParts$Part;)V -/
abbrev wp_X2_append_29  (Q : Hp → Prop)  (S : Hp) : Prop :=
  Q S
abbrev wp_X2_append (a0 : Nat) (a1 : Nat) (S : Hp) (Q : Hp → Prop) : Prop :=
  kd S a0 = 3 ∧ (((6 : Int32) ≤ (gI S 34 a0 0) → wp_X2_append_29 Q (S)) ∧ (¬ (6 : Int32) ≤ (gI S 34 a0 0) → kd S a0 = 3 ∧ kd S a0 = 3 ∧ ∃ b1, (gR S 33 a0 0) = some b1 ∧ kd S b1 = 23 ∧ kd S a1 = 6 ∧ vp_in (gI S 34 a0 0) (ln S b1) ∧ ∀ S2 : Hp, S2 = sR S 0 b1 ((gI S 34 a0 0)).toNatClampNeg (some a1) → kd S2 a0 = 3 ∧ kd S2 a0 = 3 ∧ ∀ S3 : Hp, S3 = sI S2 34 a0 0 ((gI S2 34 a0 0) + (1 : Int32)) → wp_X2_append_29 Q (S3)))
set_option maxHeartbeats 4000000 in
set_option maxRecDepth 100000 in
theorem g_X2_append_29 (C : Cx p s m args meth c z cX2_append 2 RX2 none "append")  {Q : Hp → Prop}  {S : Hp}   (hw : wp_X2_append_29  Q  S) : Go p l e { frames := 0, cells := 0, slots := 0, locals := 0 } s m args below meth c z 2 (MQ below (Qx z (wV Q)) args s 0 0 (own z)) (0) (0) 29 [] [] (S) := by
  exact G_vret (pc := 29) C rfl dX2_append_29 ⟨rfl, hw⟩
set_option maxHeartbeats 4000000 in
set_option maxRecDepth 100000 in
theorem c_X2_append (l : Launch) (z : Zt) (a0 : Nat) (a1 : Nat) (S : Hp) (Q : Hp → Prop) (hw : wp_X2_append a0 a1 S Q) : Ct l z yX2_append cX2_append 2 none 0 0 0 0 [.ref (a0), .ref (a1)] S (wV Q) := by
  refine Ct_of (by decide) (Nat.le_of_ble_eq_true rfl) ?_
  intro p e s m args below meth c C
  have C : Cx p s m args meth c z cX2_append 2 RX2 none "append" := C
  refine G_sub (lv' := [(0, .ref (a0)), (1, .ref (a1))]) [0, 1] rfl ?_
  refine G_aload_n (pc := 0) C 0 dX2_append_0 rfl rfl ?_
  obtain ⟨hk, hw⟩ := hw
  refine gf_RX2_20 (pc := 1) C dX2_append_1 hk ?_
  refine G_bipush (pc := 4) C (v := 6) dX2_append_4 (by decide) ?_
  refine G_icmp_ge (pc := 6) C 29 dX2_append_6 (by decide) (fun hc => ?_) (fun hc => ?_)
  · have hw := hw.1 hc
    exact G_sub [] rfl (g_X2_append_29 C  hw)
  · have hw := hw.2 hc
    refine G_aload_n (pc := 9) C 0 dX2_append_9 rfl rfl ?_
    obtain ⟨hk, hw⟩ := hw
    refine gf_RX2_11 (pc := 10) C dX2_append_10 hk ?_
    refine G_aload_n (pc := 13) C 0 dX2_append_13 rfl rfl ?_
    obtain ⟨hk, hw⟩ := hw
    refine gf_RX2_20 (pc := 14) C dX2_append_14 hk ?_
    refine G_aload_n (pc := 17) C 1 dX2_append_17 rfl rfl ?_
    obtain ⟨b1, hq, hw⟩ := hw
    rw [hq]
    obtain ⟨hk, hv, hi, hw⟩ := hw
    refine G_aast (pc := 18) C 3 5 3 rfl (by decide) rfl rfl hk hv hi dX2_append_18 ?_
    obtain ⟨S2, hS2⟩ : ∃ y : Hp, y = sR S 0 b1 ((gI S 34 a0 0)).toNatClampNeg (some a1) := ⟨_, rfl⟩
    have hw := hw S2 hS2
    rw [← hS2]
    clear hS2
    refine G_aload_n (pc := 19) C 0 dX2_append_19 rfl rfl ?_
    refine G_dup (pc := 20) C dX2_append_20 rfl ?_
    obtain ⟨hk, hw⟩ := hw
    refine gf_RX2_20 (pc := 21) C dX2_append_21 hk ?_
    refine G_iconst (pc := 24) C (v := 1) dX2_append_24 (by decide) ?_
    refine G_iadd (pc := 25) C dX2_append_25 ?_
    obtain ⟨hk, hw⟩ := hw
    refine pf_RX2_20 (pc := 26) C dX2_append_26 hk ?_
    obtain ⟨S3, hS3⟩ : ∃ y : Hp, y = sI S2 34 a0 0 ((gI S2 34 a0 0) + (1 : Int32)) := ⟨_, rfl⟩
    have hw := hw S3 hS3
    rw [← hS3]
    clear hS3
    exact G_sub [] rfl (g_X2_append_29 C  hw)
/-! FirstParts$Line.takeOut(I)V -/
abbrev wb_X2_takeOut_2  (K2 : Int32 → Hp → Prop) (Q : Hp → Prop) (v0 : Nat) (v2 : Int32) (S : Hp) : Prop :=
  kd S v0 = 3 ∧ (((gI S 34 v0 0) ≤ (v2 + (1 : Int32)) → kd S v0 = 3 ∧ kd S v0 = 3 ∧ ∀ S1 : Hp, S1 = sI S 34 v0 0 ((gI S 34 v0 0) - (1 : Int32)) → Q S1) ∧ (¬ (gI S 34 v0 0) ≤ (v2 + (1 : Int32)) → kd S v0 = 3 ∧ kd S v0 = 3 ∧ ∃ b2, (gR S 33 v0 0) = some b2 ∧ kd S b2 = 23 ∧ vp_in (v2 + (1 : Int32)) (ln S b2) ∧ ∃ b3, (gR S 0 b2 ((v2 + (1 : Int32))).toNatClampNeg) = some b3 ∧ kd S b2 = 23 ∧ kd S b3 = 6 ∧ vp_in v2 (ln S b2) ∧ ∀ S4 : Hp, S4 = sR S 0 b2 (v2).toNatClampNeg (some b3) → ∀ e5 : Int32, e5 = (v2 + 1) → K2 (e5) (S4)))
abbrev wp_X2_takeOut_2  (Q : Hp → Prop) (v0 : Nat) (v2 : Int32) (S : Hp) : Prop :=
  Lp (X := Int32 × Hp) (fun K y => wb_X2_takeOut_2  (fun w0 w1 => K (w0, w1)) Q v0 y.1 y.2) (v2, S)
abbrev wp_X2_takeOut (a0 : Nat) (x1 : Int32) (S : Hp) (Q : Hp → Prop) : Prop :=
  wp_X2_takeOut_2 Q (a0) (x1) (S)
set_option maxHeartbeats 4000000 in
set_option maxRecDepth 100000 in
theorem gb_X2_takeOut_2 (C : Cx p s m args meth c z cX2_takeOut 3 RX2 none "takeOut") {K2 : Int32 → Hp → Prop} {Q : Hp → Prop} {v0 : Nat} {v2 : Int32} {S : Hp}  (hK2 : ∀ (w2 : Int32) (S2 : Hp), K2 w2 S2 → Go p l e { frames := 0, cells := 0, slots := 0, locals := 0 } s m args below meth c z 3 (MQ below (Qx z (wV Q)) args s 0 0 (own z)) (0) (0) 2 [(0, .ref (v0)), (2, .int (w2))] [] (S2)) (hw : wb_X2_takeOut_2  K2 Q v0 v2 S) : Go p l e { frames := 0, cells := 0, slots := 0, locals := 0 } s m args below meth c z 3 (MQ below (Qx z (wV Q)) args s 0 0 (own z)) (0) (0) 2 [(0, .ref (v0)), (2, .int (v2))] [] (S) := by
  refine G_iload_n (pc := 2) C 1 dX2_takeOut_2 rfl rfl ?_
  refine G_iconst (pc := 3) C (v := 1) dX2_takeOut_3 (by decide) ?_
  refine G_iadd (pc := 4) C dX2_takeOut_4 ?_
  refine G_aload_n (pc := 5) C 0 dX2_takeOut_5 rfl rfl ?_
  obtain ⟨hk, hw⟩ := hw
  refine gf_RX2_20 (pc := 6) C dX2_takeOut_6 hk ?_
  refine G_icmp_ge (pc := 9) C 32 dX2_takeOut_9 (by decide) (fun hc => ?_) (fun hc => ?_)
  · have hw := hw.1 hc
    refine G_aload_n (pc := 32) C 0 dX2_takeOut_32 rfl rfl ?_
    refine G_dup (pc := 33) C dX2_takeOut_33 rfl ?_
    obtain ⟨hk, hw⟩ := hw
    refine gf_RX2_20 (pc := 34) C dX2_takeOut_34 hk ?_
    refine G_iconst (pc := 37) C (v := 1) dX2_takeOut_37 (by decide) ?_
    refine G_isub (pc := 38) C dX2_takeOut_38 ?_
    obtain ⟨hk, hw⟩ := hw
    refine pf_RX2_20 (pc := 39) C dX2_takeOut_39 hk ?_
    obtain ⟨S1, hS1⟩ : ∃ y : Hp, y = sI S 34 v0 0 ((gI S 34 v0 0) - (1 : Int32)) := ⟨_, rfl⟩
    have hw := hw S1 hS1
    rw [← hS1]
    clear hS1
    exact G_vret (pc := 42) C rfl dX2_takeOut_42 ⟨rfl, hw⟩
  · have hw := hw.2 hc
    refine G_aload_n (pc := 12) C 0 dX2_takeOut_12 rfl rfl ?_
    obtain ⟨hk, hw⟩ := hw
    refine gf_RX2_11 (pc := 13) C dX2_takeOut_13 hk ?_
    refine G_iload_n (pc := 16) C 1 dX2_takeOut_16 rfl rfl ?_
    refine G_aload_n (pc := 17) C 0 dX2_takeOut_17 rfl rfl ?_
    obtain ⟨hk, hw⟩ := hw
    refine gf_RX2_11 (pc := 18) C dX2_takeOut_18 hk ?_
    refine G_iload_n (pc := 21) C 1 dX2_takeOut_21 rfl rfl ?_
    refine G_iconst (pc := 22) C (v := 1) dX2_takeOut_22 (by decide) ?_
    refine G_iadd (pc := 23) C dX2_takeOut_23 ?_
    obtain ⟨b2, hq, hw⟩ := hw
    rw [hq]
    obtain ⟨hk, hi, hw⟩ := hw
    refine G_aald (pc := 24) C 3 rfl (by decide) rfl hk hi dX2_takeOut_24 ?_
    obtain ⟨b3, hq, hw⟩ := hw
    rw [hq]
    obtain ⟨hk, hv, hi, hw⟩ := hw
    refine G_aast (pc := 25) C 3 5 3 rfl (by decide) rfl rfl hk hv hi dX2_takeOut_25 ?_
    obtain ⟨S4, hS4⟩ : ∃ y : Hp, y = sR S 0 b2 (v2).toNatClampNeg (some b3) := ⟨_, rfl⟩
    have hw := hw S4 hS4
    rw [← hS4]
    clear hS4
    obtain ⟨e5, he5⟩ : ∃ y : Int32, y = (v2 + 1) := ⟨_, rfl⟩
    have hw := hw e5 he5
    refine G_iinc (pc := 26) C [(2, .int (e5)), (0, .ref (v0))] 1 (v := e5) dX2_takeOut_26 rfl (by rw [he5]; rfl) (by decide) rfl ?_
    clear he5
    refine G_goto (pc := 29) C 2 dX2_takeOut_29 (by decide) ?_
    exact G_sub [1, 0] rfl (hK2 _ _ hw)
set_option maxHeartbeats 4000000 in
set_option maxRecDepth 100000 in
theorem g_X2_takeOut_2 (C : Cx p s m args meth c z cX2_takeOut 3 RX2 none "takeOut")  {Q : Hp → Prop} {v0 : Nat} {v2 : Int32} {S : Hp}   (hw : wp_X2_takeOut_2  Q v0 v2 S) : Go p l e { frames := 0, cells := 0, slots := 0, locals := 0 } s m args below meth c z 3 (MQ below (Qx z (wV Q)) args s 0 0 (own z)) (0) (0) 2 [(0, .ref (v0)), (2, .int (v2))] [] (S) :=
  Lp_go (G := fun y : Int32 × Hp => Go p l e { frames := 0, cells := 0, slots := 0, locals := 0 } s m args below meth c z 3 (MQ below (Qx z (wV Q)) args s 0 0 (own z)) (0) (0) 2 [(0, .ref (v0)), (2, .int (y.1))] [] (y.2)) (fun K y hK hB => gb_X2_takeOut_2 C  (fun w0 w1 h => hK (w0, w1) h) hB) hw
set_option maxHeartbeats 4000000 in
set_option maxRecDepth 100000 in
theorem c_X2_takeOut (l : Launch) (z : Zt) (a0 : Nat) (x1 : Int32) (S : Hp) (Q : Hp → Prop) (hw : wp_X2_takeOut a0 x1 S Q) : Ct l z yX2_takeOut cX2_takeOut 3 none 0 0 0 0 [.ref (a0), .int (x1)] S (wV Q) := by
  refine Ct_of (by decide) (Nat.le_of_ble_eq_true rfl) ?_
  intro p e s m args below meth c C
  have C : Cx p s m args meth c z cX2_takeOut 3 RX2 none "takeOut" := C
  refine G_sub (lv' := [(0, .ref (a0)), (1, .int (x1))]) [0, 1] rfl ?_
  refine G_iload_n (pc := 0) C 1 dX2_takeOut_0 rfl rfl ?_
  refine G_istore_n (pc := 1) C [(2, .int (x1)), (0, .ref (a0)), (1, .int (x1))] dX2_takeOut_1 rfl (by decide) rfl ?_
  exact G_sub [1, 0] rfl (g_X2_takeOut_2 C  hw)
/-! FirstParts$Line.length()I -/
abbrev wb_X2_length_4  (K4 : Int32 → Int32 → Prop) (Q : Int32 → Prop) (v0 : Nat) (v1 : Int32) (v2 : Int32) (S : Hp) : Prop :=
  kd S v0 = 3 ∧ (((gI S 34 v0 0) ≤ v2 → Q v1) ∧ (¬ (gI S 34 v0 0) ≤ v2 → kd S v0 = 3 ∧ ∃ b1, (gR S 33 v0 0) = some b1 ∧ kd S b1 = 23 ∧ vp_in v2 (ln S b1) ∧ ∃ b2, (gR S 0 b1 (v2).toNatClampNeg) = some b2 ∧ kd S b2 = 6 ∧ wp_X5_stripes (b2) S (fun e3 => ∀ e5 : Int32, e5 = (v1 + e3) → ∀ e6 : Int32, e6 = (v2 + 1) → K4 (e5) (e6))))
abbrev wp_X2_length_4  (Q : Int32 → Prop) (v0 : Nat) (v1 : Int32) (v2 : Int32) (S : Hp) : Prop :=
  Lp (X := Int32 × Int32) (fun K y => wb_X2_length_4  (fun w0 w1 => K (w0, w1)) Q v0 y.1 y.2 S) (v1, v2)
abbrev wp_X2_length (a0 : Nat) (S : Hp) (Q : Int32 → Prop) : Prop :=
  wp_X2_length_4 Q (a0) ((0 : Int32)) ((0 : Int32)) (S)
set_option maxHeartbeats 4000000 in
set_option maxRecDepth 100000 in
theorem gb_X2_length_4 (C : Cx p s m args meth c z cX2_length 3 RX2 (some .int) "length") {K4 : Int32 → Int32 → Prop} {Q : Int32 → Prop} {v0 : Nat} {v1 : Int32} {v2 : Int32} {S : Hp}  (hK4 : ∀ (w1 : Int32) (w2 : Int32), K4 w1 w2 → Go p l e { frames := 2, cells := 0, slots := 0, locals := 41 } s m args below meth c z 3 (MQ below (Qx z (pI S Q)) args s 0 0 (own z)) (0) (0) 4 [(0, .ref (v0)), (1, .int (w1)), (2, .int (w2))] [] (S)) (hw : wb_X2_length_4  K4 Q v0 v1 v2 S) : Go p l e { frames := 2, cells := 0, slots := 0, locals := 41 } s m args below meth c z 3 (MQ below (Qx z (pI S Q)) args s 0 0 (own z)) (0) (0) 4 [(0, .ref (v0)), (1, .int (v1)), (2, .int (v2))] [] (S) := by
  refine G_iload_n (pc := 4) C 2 dX2_length_4 rfl rfl ?_
  refine G_aload_n (pc := 5) C 0 dX2_length_5 rfl rfl ?_
  obtain ⟨hk, hw⟩ := hw
  refine gf_RX2_20 (pc := 6) C dX2_length_6 hk ?_
  refine G_icmp_ge (pc := 9) C 30 dX2_length_9 (by decide) (fun hc => ?_) (fun hc => ?_)
  · have hw := hw.1 hc
    refine G_iload_n (pc := 30) C 1 dX2_length_30 rfl rfl ?_
    exact G_iret (pc := 31) C rfl dX2_length_31 ⟨rfl, _, rfl, hw⟩
  · have hw := hw.2 hc
    refine G_iload_n (pc := 12) C 1 dX2_length_12 rfl rfl ?_
    refine G_aload_n (pc := 13) C 0 dX2_length_13 rfl rfl ?_
    obtain ⟨hk, hw⟩ := hw
    refine gf_RX2_11 (pc := 14) C dX2_length_14 hk ?_
    refine G_iload_n (pc := 17) C 2 dX2_length_17 rfl rfl ?_
    obtain ⟨b1, hq, hw⟩ := hw
    rw [hq]
    obtain ⟨hk, hi, hw⟩ := hw
    refine G_aald (pc := 18) C 3 rfl (by decide) rfl hk hi dX2_length_18 ?_
    obtain ⟨b2, hq, hw⟩ := hw
    rw [hq]
    obtain ⟨hk, hw⟩ := hw
    refine cl_RX2_34 (pc := 19) C (c_X5_stripes l z (b2) S _ hw) ⟨Nat.le_of_ble_eq_true rfl, Nat.le_of_ble_eq_true rfl⟩ hk dX2_length_19 (Nat.le_of_ble_eq_true rfl) (fun v S' hp => ?_)
    clear hw
    obtain ⟨hS, e3, rfl, hw⟩ := hp
    subst S'
    refine G_iadd (pc := 22) C dX2_length_22 ?_
    refine G_topi (fun e5 he5 => ?_)
    have hw := hw e5 he5
    clear he5
    refine G_istore_n (pc := 23) C [(1, .int (e5)), (0, .ref (v0)), (2, .int (v2))] dX2_length_23 rfl (by decide) rfl ?_
    obtain ⟨e6, he6⟩ : ∃ y : Int32, y = (v2 + 1) := ⟨_, rfl⟩
    have hw := hw e6 he6
    refine G_iinc (pc := 24) C [(2, .int (e6)), (1, .int (e5)), (0, .ref (v0))] 2 (v := e6) dX2_length_24 rfl (by rw [he6]; rfl) (by decide) rfl ?_
    clear he6
    refine G_goto (pc := 27) C 4 dX2_length_27 (by decide) ?_
    exact G_sub [2, 1, 0] rfl (hK4 _ _ hw)
set_option maxHeartbeats 4000000 in
set_option maxRecDepth 100000 in
theorem g_X2_length_4 (C : Cx p s m args meth c z cX2_length 3 RX2 (some .int) "length")  {Q : Int32 → Prop} {v0 : Nat} {v1 : Int32} {v2 : Int32} {S : Hp}   (hw : wp_X2_length_4  Q v0 v1 v2 S) : Go p l e { frames := 2, cells := 0, slots := 0, locals := 41 } s m args below meth c z 3 (MQ below (Qx z (pI S Q)) args s 0 0 (own z)) (0) (0) 4 [(0, .ref (v0)), (1, .int (v1)), (2, .int (v2))] [] (S) :=
  Lp_go (G := fun y : Int32 × Int32 => Go p l e { frames := 2, cells := 0, slots := 0, locals := 41 } s m args below meth c z 3 (MQ below (Qx z (pI S Q)) args s 0 0 (own z)) (0) (0) 4 [(0, .ref (v0)), (1, .int (y.1)), (2, .int (y.2))] [] (S)) (fun K y hK hB => gb_X2_length_4 C  (fun w0 w1 h => hK (w0, w1) h) hB) hw
set_option maxHeartbeats 4000000 in
set_option maxRecDepth 100000 in
theorem c_X2_length (l : Launch) (z : Zt) (a0 : Nat) (S : Hp) (Q : Int32 → Prop) (hw : wp_X2_length a0 S Q) : Ct l z yX2_length cX2_length 3 (some .int) 2 41 0 0 [.ref (a0)] S (pI S Q) := by
  refine Ct_of (by decide) (Nat.le_of_ble_eq_true rfl) ?_
  intro p e s m args below meth c C
  have C : Cx p s m args meth c z cX2_length 3 RX2 (some .int) "length" := C
  refine G_sub (lv' := [(0, .ref (a0))]) [0] rfl ?_
  refine G_iconst (pc := 0) C (v := 0) dX2_length_0 (by decide) ?_
  refine G_istore_n (pc := 1) C [(1, .int ((0 : Int32))), (0, .ref (a0))] dX2_length_1 rfl (by decide) rfl ?_
  refine G_iconst (pc := 2) C (v := 0) dX2_length_2 (by decide) ?_
  refine G_istore_n (pc := 3) C [(2, .int ((0 : Int32))), (1, .int ((0 : Int32))), (0, .ref (a0))] dX2_length_3 rfl (by decide) rfl ?_
  exact G_sub [2, 1, 0] rfl (g_X2_length_4 C  hw)
/-! FirstParts$Line.cost()I -/
abbrev wb_X2_cost_4  (K4 : Int32 → Int32 → Prop) (Q : Int32 → Prop) (v0 : Nat) (v1 : Int32) (v2 : Int32) (S : Hp) : Prop :=
  kd S v0 = 3 ∧ (((gI S 34 v0 0) ≤ v2 → Q v1) ∧ (¬ (gI S 34 v0 0) ≤ v2 → kd S v0 = 3 ∧ ∃ b1, (gR S 33 v0 0) = some b1 ∧ kd S b1 = 23 ∧ vp_in v2 (ln S b1) ∧ ∃ b2, (gR S 0 b1 (v2).toNatClampNeg) = some b2 ∧ kd S b2 = 6 ∧ kd S v0 = 3 ∧ ∃ b3, (gR S 33 v0 0) = some b3 ∧ kd S b3 = 23 ∧ vp_in v2 (ln S b3) ∧ ∃ b4, (gR S 0 b3 (v2).toNatClampNeg) = some b4 ∧ kd S b4 = 6 ∧ ∀ e5 : Int32, e5 = (v1 + ((gI S 83 b2 0) * (gI S 82 b4 0))) → ∀ e6 : Int32, e6 = (v2 + 1) → K4 (e5) (e6)))
abbrev wp_X2_cost_4  (Q : Int32 → Prop) (v0 : Nat) (v1 : Int32) (v2 : Int32) (S : Hp) : Prop :=
  Lp (X := Int32 × Int32) (fun K y => wb_X2_cost_4  (fun w0 w1 => K (w0, w1)) Q v0 y.1 y.2 S) (v1, v2)
abbrev wp_X2_cost (a0 : Nat) (S : Hp) (Q : Int32 → Prop) : Prop :=
  wp_X2_cost_4 Q (a0) ((0 : Int32)) ((0 : Int32)) (S)
set_option maxHeartbeats 4000000 in
set_option maxRecDepth 100000 in
theorem gb_X2_cost_4 (C : Cx p s m args meth c z cX2_cost 3 RX2 (some .int) "cost") {K4 : Int32 → Int32 → Prop} {Q : Int32 → Prop} {v0 : Nat} {v1 : Int32} {v2 : Int32} {S : Hp}  (hK4 : ∀ (w1 : Int32) (w2 : Int32), K4 w1 w2 → Go p l e { frames := 0, cells := 0, slots := 0, locals := 0 } s m args below meth c z 3 (MQ below (Qx z (pI S Q)) args s 0 0 (own z)) (0) (0) 4 [(0, .ref (v0)), (1, .int (w1)), (2, .int (w2))] [] (S)) (hw : wb_X2_cost_4  K4 Q v0 v1 v2 S) : Go p l e { frames := 0, cells := 0, slots := 0, locals := 0 } s m args below meth c z 3 (MQ below (Qx z (pI S Q)) args s 0 0 (own z)) (0) (0) 4 [(0, .ref (v0)), (1, .int (v1)), (2, .int (v2))] [] (S) := by
  refine G_iload_n (pc := 4) C 2 dX2_cost_4 rfl rfl ?_
  refine G_aload_n (pc := 5) C 0 dX2_cost_5 rfl rfl ?_
  obtain ⟨hk, hw⟩ := hw
  refine gf_RX2_20 (pc := 6) C dX2_cost_6 hk ?_
  refine G_icmp_ge (pc := 9) C 40 dX2_cost_9 (by decide) (fun hc => ?_) (fun hc => ?_)
  · have hw := hw.1 hc
    refine G_iload_n (pc := 40) C 1 dX2_cost_40 rfl rfl ?_
    exact G_iret (pc := 41) C rfl dX2_cost_41 ⟨rfl, _, rfl, hw⟩
  · have hw := hw.2 hc
    refine G_iload_n (pc := 12) C 1 dX2_cost_12 rfl rfl ?_
    refine G_aload_n (pc := 13) C 0 dX2_cost_13 rfl rfl ?_
    obtain ⟨hk, hw⟩ := hw
    refine gf_RX2_11 (pc := 14) C dX2_cost_14 hk ?_
    refine G_iload_n (pc := 17) C 2 dX2_cost_17 rfl rfl ?_
    obtain ⟨b1, hq, hw⟩ := hw
    rw [hq]
    obtain ⟨hk, hi, hw⟩ := hw
    refine G_aald (pc := 18) C 3 rfl (by decide) rfl hk hi dX2_cost_18 ?_
    obtain ⟨b2, hq, hw⟩ := hw
    rw [hq]
    obtain ⟨hk, hw⟩ := hw
    refine gf_RX2_38 (pc := 19) C dX2_cost_19 hk ?_
    refine G_aload_n (pc := 22) C 0 dX2_cost_22 rfl rfl ?_
    obtain ⟨hk, hw⟩ := hw
    refine gf_RX2_11 (pc := 23) C dX2_cost_23 hk ?_
    refine G_iload_n (pc := 26) C 2 dX2_cost_26 rfl rfl ?_
    obtain ⟨b3, hq, hw⟩ := hw
    rw [hq]
    obtain ⟨hk, hi, hw⟩ := hw
    refine G_aald (pc := 27) C 3 rfl (by decide) rfl hk hi dX2_cost_27 ?_
    obtain ⟨b4, hq, hw⟩ := hw
    rw [hq]
    obtain ⟨hk, hw⟩ := hw
    refine gf_RX2_41 (pc := 28) C dX2_cost_28 hk ?_
    refine G_imul (pc := 31) C dX2_cost_31 ?_
    refine G_iadd (pc := 32) C dX2_cost_32 ?_
    refine G_topi (fun e5 he5 => ?_)
    have hw := hw e5 he5
    clear he5
    refine G_istore_n (pc := 33) C [(1, .int (e5)), (0, .ref (v0)), (2, .int (v2))] dX2_cost_33 rfl (by decide) rfl ?_
    obtain ⟨e6, he6⟩ : ∃ y : Int32, y = (v2 + 1) := ⟨_, rfl⟩
    have hw := hw e6 he6
    refine G_iinc (pc := 34) C [(2, .int (e6)), (1, .int (e5)), (0, .ref (v0))] 2 (v := e6) dX2_cost_34 rfl (by rw [he6]; rfl) (by decide) rfl ?_
    clear he6
    refine G_goto (pc := 37) C 4 dX2_cost_37 (by decide) ?_
    exact G_sub [2, 1, 0] rfl (hK4 _ _ hw)
set_option maxHeartbeats 4000000 in
set_option maxRecDepth 100000 in
theorem g_X2_cost_4 (C : Cx p s m args meth c z cX2_cost 3 RX2 (some .int) "cost")  {Q : Int32 → Prop} {v0 : Nat} {v1 : Int32} {v2 : Int32} {S : Hp}   (hw : wp_X2_cost_4  Q v0 v1 v2 S) : Go p l e { frames := 0, cells := 0, slots := 0, locals := 0 } s m args below meth c z 3 (MQ below (Qx z (pI S Q)) args s 0 0 (own z)) (0) (0) 4 [(0, .ref (v0)), (1, .int (v1)), (2, .int (v2))] [] (S) :=
  Lp_go (G := fun y : Int32 × Int32 => Go p l e { frames := 0, cells := 0, slots := 0, locals := 0 } s m args below meth c z 3 (MQ below (Qx z (pI S Q)) args s 0 0 (own z)) (0) (0) 4 [(0, .ref (v0)), (1, .int (y.1)), (2, .int (y.2))] [] (S)) (fun K y hK hB => gb_X2_cost_4 C  (fun w0 w1 h => hK (w0, w1) h) hB) hw
set_option maxHeartbeats 4000000 in
set_option maxRecDepth 100000 in
theorem c_X2_cost (l : Launch) (z : Zt) (a0 : Nat) (S : Hp) (Q : Int32 → Prop) (hw : wp_X2_cost a0 S Q) : Ct l z yX2_cost cX2_cost 3 (some .int) 0 0 0 0 [.ref (a0)] S (pI S Q) := by
  refine Ct_of (by decide) (Nat.le_of_ble_eq_true rfl) ?_
  intro p e s m args below meth c C
  have C : Cx p s m args meth c z cX2_cost 3 RX2 (some .int) "cost" := C
  refine G_sub (lv' := [(0, .ref (a0))]) [0] rfl ?_
  refine G_iconst (pc := 0) C (v := 0) dX2_cost_0 (by decide) ?_
  refine G_istore_n (pc := 1) C [(1, .int ((0 : Int32))), (0, .ref (a0))] dX2_cost_1 rfl (by decide) rfl ?_
  refine G_iconst (pc := 2) C (v := 0) dX2_cost_2 (by decide) ?_
  refine G_istore_n (pc := 3) C [(2, .int ((0 : Int32))), (1, .int ((0 : Int32))), (0, .ref (a0))] dX2_cost_3 rfl (by decide) rfl ?_
  exact G_sub [2, 1, 0] rfl (g_X2_cost_4 C  hw)
/-! FirstParts$Line.fits()Z -/
abbrev wp_X2_fits_50  (Q : Int32 → Prop) (s0 : Int32) (S : Hp) : Prop :=
  (s0 = 0 ∨ s0 = 1) ∧ Q s0
abbrev wb_X2_fits_2  (K2 : Int32 → Prop) (Q : Int32 → Prop) (v0 : Nat) (v1 : Int32) (S : Hp) : Prop :=
  kd S v0 = 3 ∧ (((gI S 34 v0 0) ≤ v1 → kd S v0 = 3 ∧ wp_X2_length (v0) S (fun e1 => kd S v0 = 3 ∧ (((gI S 36 v0 0) < e1 → wp_X2_fits_50 Q ((0 : Int32)) (S)) ∧ (¬ (gI S 36 v0 0) < e1 → wp_X2_fits_50 Q ((1 : Int32)) (S))))) ∧ (¬ (gI S 34 v0 0) ≤ v1 → kd S v0 = 3 ∧ ∃ b3, (gR S 33 v0 0) = some b3 ∧ kd S b3 = 23 ∧ vp_in v1 (ln S b3) ∧ ∃ b4, (gR S 0 b3 (v1).toNatClampNeg) = some b4 ∧ kd S b4 = 6 ∧ kd S v0 = 3 ∧ (((gI S 82 b4 0) ≤ (gI S 35 v0 0) → ∀ e5 : Int32, e5 = (v1 + 1) → K2 (e5)) ∧ (¬ (gI S 82 b4 0) ≤ (gI S 35 v0 0) → Q (0 : Int32)))))
abbrev wp_X2_fits_2  (Q : Int32 → Prop) (v0 : Nat) (v1 : Int32) (S : Hp) : Prop :=
  Lp (X := Int32) (fun K y => wb_X2_fits_2  (fun w0 => K (w0)) Q v0 y S) (v1)
abbrev wp_X2_fits (a0 : Nat) (S : Hp) (Q : Int32 → Prop) : Prop :=
  wp_X2_fits_2 Q (a0) ((0 : Int32)) (S)
set_option maxHeartbeats 4000000 in
set_option maxRecDepth 100000 in
theorem g_X2_fits_50 (C : Cx p s m args meth c z cX2_fits 2 RX2 (some .boolean) "fits")  {Q : Int32 → Prop} {s0 : Int32} {S : Hp}   (hw : wp_X2_fits_50  Q s0 S) : Go p l e { frames := 3, cells := 0, slots := 0, locals := 63 } s m args below meth c z 2 (MQ below (Qx z (pI S Q)) args s 0 0 (own z)) (0) (0) 50 [] [.int (s0)] (S) := by
  obtain ⟨hb, hw⟩ := hw
  exact G_zret (pc := 50) C rfl hb dX2_fits_50 ⟨rfl, _, rfl, hw⟩
set_option maxHeartbeats 4000000 in
set_option maxRecDepth 100000 in
theorem gb_X2_fits_2 (C : Cx p s m args meth c z cX2_fits 2 RX2 (some .boolean) "fits") {K2 : Int32 → Prop} {Q : Int32 → Prop} {v0 : Nat} {v1 : Int32} {S : Hp}  (hK2 : ∀ (w1 : Int32), K2 w1 → Go p l e { frames := 3, cells := 0, slots := 0, locals := 63 } s m args below meth c z 2 (MQ below (Qx z (pI S Q)) args s 0 0 (own z)) (0) (0) 2 [(0, .ref (v0)), (1, .int (w1))] [] (S)) (hw : wb_X2_fits_2  K2 Q v0 v1 S) : Go p l e { frames := 3, cells := 0, slots := 0, locals := 63 } s m args below meth c z 2 (MQ below (Qx z (pI S Q)) args s 0 0 (own z)) (0) (0) 2 [(0, .ref (v0)), (1, .int (v1))] [] (S) := by
  refine G_iload_n (pc := 2) C 1 dX2_fits_2 rfl rfl ?_
  refine G_aload_n (pc := 3) C 0 dX2_fits_3 rfl rfl ?_
  obtain ⟨hk, hw⟩ := hw
  refine gf_RX2_20 (pc := 4) C dX2_fits_4 hk ?_
  refine G_icmp_ge (pc := 7) C 34 dX2_fits_7 (by decide) (fun hc => ?_) (fun hc => ?_)
  · have hw := hw.1 hc
    refine G_aload_n (pc := 34) C 0 dX2_fits_34 rfl rfl ?_
    obtain ⟨hk, hw⟩ := hw
    refine cl_RX2_44 (pc := 35) C (c_X2_length l z (v0) S _ hw) ⟨Nat.le_of_ble_eq_true rfl, Nat.le_of_ble_eq_true rfl⟩ hk dX2_fits_35 (Nat.le_of_ble_eq_true rfl) (fun v S' hp => ?_)
    clear hw
    obtain ⟨hS, e1, rfl, hw⟩ := hp
    subst S'
    refine G_aload_n (pc := 38) C 0 dX2_fits_38 rfl rfl ?_
    obtain ⟨hk, hw⟩ := hw
    refine gf_RX2_27 (pc := 39) C dX2_fits_39 hk ?_
    refine G_icmp_gt (pc := 42) C 49 dX2_fits_42 (by decide) (fun hc => ?_) (fun hc => ?_)
    · have hw := hw.1 hc
      refine G_iconst (pc := 49) C (v := 0) dX2_fits_49 (by decide) ?_
      exact G_sub [] rfl (g_X2_fits_50 C  hw)
    · have hw := hw.2 hc
      refine G_iconst (pc := 45) C (v := 1) dX2_fits_45 (by decide) ?_
      refine G_goto (pc := 46) C 50 dX2_fits_46 (by decide) ?_
      exact G_sub [] rfl (g_X2_fits_50 C  hw)
  · have hw := hw.2 hc
    refine G_aload_n (pc := 10) C 0 dX2_fits_10 rfl rfl ?_
    obtain ⟨hk, hw⟩ := hw
    refine gf_RX2_11 (pc := 11) C dX2_fits_11 hk ?_
    refine G_iload_n (pc := 14) C 1 dX2_fits_14 rfl rfl ?_
    obtain ⟨b3, hq, hw⟩ := hw
    rw [hq]
    obtain ⟨hk, hi, hw⟩ := hw
    refine G_aald (pc := 15) C 3 rfl (by decide) rfl hk hi dX2_fits_15 ?_
    obtain ⟨b4, hq, hw⟩ := hw
    rw [hq]
    obtain ⟨hk, hw⟩ := hw
    refine gf_RX2_41 (pc := 16) C dX2_fits_16 hk ?_
    refine G_aload_n (pc := 19) C 0 dX2_fits_19 rfl rfl ?_
    obtain ⟨hk, hw⟩ := hw
    refine gf_RX2_24 (pc := 20) C dX2_fits_20 hk ?_
    refine G_icmp_le (pc := 23) C 28 dX2_fits_23 (by decide) (fun hc => ?_) (fun hc => ?_)
    · have hw := hw.1 hc
      obtain ⟨e5, he5⟩ : ∃ y : Int32, y = (v1 + 1) := ⟨_, rfl⟩
      have hw := hw e5 he5
      refine G_iinc (pc := 28) C [(1, .int (e5)), (0, .ref (v0))] 1 (v := e5) dX2_fits_28 rfl (by rw [he5]; rfl) (by decide) rfl ?_
      clear he5
      refine G_goto (pc := 31) C 2 dX2_fits_31 (by decide) ?_
      exact G_sub [1, 0] rfl (hK2 _ hw)
    · have hw := hw.2 hc
      refine G_iconst (pc := 26) C (v := 0) dX2_fits_26 (by decide) ?_
      exact G_zret (pc := 27) C rfl (by decide) dX2_fits_27 ⟨rfl, _, rfl, hw⟩
set_option maxHeartbeats 4000000 in
set_option maxRecDepth 100000 in
theorem g_X2_fits_2 (C : Cx p s m args meth c z cX2_fits 2 RX2 (some .boolean) "fits")  {Q : Int32 → Prop} {v0 : Nat} {v1 : Int32} {S : Hp}   (hw : wp_X2_fits_2  Q v0 v1 S) : Go p l e { frames := 3, cells := 0, slots := 0, locals := 63 } s m args below meth c z 2 (MQ below (Qx z (pI S Q)) args s 0 0 (own z)) (0) (0) 2 [(0, .ref (v0)), (1, .int (v1))] [] (S) :=
  Lp_go (G := fun y : Int32 => Go p l e { frames := 3, cells := 0, slots := 0, locals := 63 } s m args below meth c z 2 (MQ below (Qx z (pI S Q)) args s 0 0 (own z)) (0) (0) 2 [(0, .ref (v0)), (1, .int (y))] [] (S)) (fun K y hK hB => gb_X2_fits_2 C  (fun w0 h => hK (w0) h) hB) hw
set_option maxHeartbeats 4000000 in
set_option maxRecDepth 100000 in
theorem c_X2_fits (l : Launch) (z : Zt) (a0 : Nat) (S : Hp) (Q : Int32 → Prop) (hw : wp_X2_fits a0 S Q) : Ct l z yX2_fits cX2_fits 2 (some .boolean) 3 63 0 0 [.ref (a0)] S (pI S Q) := by
  refine Ct_of (by decide) (Nat.le_of_ble_eq_true rfl) ?_
  intro p e s m args below meth c C
  have C : Cx p s m args meth c z cX2_fits 2 RX2 (some .boolean) "fits" := C
  refine G_sub (lv' := [(0, .ref (a0))]) [0] rfl ?_
  refine G_iconst (pc := 0) C (v := 0) dX2_fits_0 (by decide) ?_
  refine G_istore_n (pc := 1) C [(1, .int ((0 : Int32))), (0, .ref (a0))] dX2_fits_1 rfl (by decide) rfl ?_
  exact G_sub [1, 0] rfl (g_X2_fits_2 C  hw)
/-! FirstParts$Line.weightWithin(II)I -/
abbrev wp_X2_weightWithin_72  (Q : Int32 → Prop) (s0 : Int32) (S : Hp) : Prop :=
  Q s0
abbrev wp_X2_weightWithin_55 (K8 : Int32 → Int32 → Int32 → Prop) (Q : Int32 → Prop) (v0 : Nat) (v1 : Int32) (v2 : Int32) (v3 : Int32) (v4 : Int32) (v5 : Int32) (S : Hp) : Prop :=
  ∀ e1 : Int32, e1 = (v5 + 1) → K8 (v3) (v4) (e1)
abbrev wb_X2_weightWithin_8  (K8 : Int32 → Int32 → Int32 → Prop) (Q : Int32 → Prop) (v0 : Nat) (v1 : Int32) (v2 : Int32) (v3 : Int32) (v4 : Int32) (v5 : Int32) (S : Hp) : Prop :=
  kd S v0 = 3 ∧ (((gI S 34 v0 0) ≤ v5 → ((v2 < v3 → wp_X2_weightWithin_72 Q ((-1 : Int32)) (S)) ∧ (¬ v2 < v3 → wp_X2_weightWithin_72 Q (v4) (S)))) ∧ (¬ (gI S 34 v0 0) ≤ v5 → ((((v1 >>> (v5 &&& 31)) &&& (1 : Int32)) ≠ (1 : Int32) → wp_X2_weightWithin_55 K8 Q (v0) (v1) (v2) (v3) (v4) (v5) (S)) ∧ (((v1 >>> (v5 &&& 31)) &&& (1 : Int32)) = (1 : Int32) → kd S v0 = 3 ∧ ∃ b2, (gR S 33 v0 0) = some b2 ∧ kd S b2 = 23 ∧ vp_in v5 (ln S b2) ∧ ∃ b3, (gR S 0 b2 (v5).toNatClampNeg) = some b3 ∧ kd S b3 = 6 ∧ wp_X5_stripes (b3) S (fun e4 => ∀ e6 : Int32, e6 = (v3 + e4) → kd S v0 = 3 ∧ ∃ b7, (gR S 33 v0 0) = some b7 ∧ kd S b7 = 23 ∧ vp_in v5 (ln S b7) ∧ ∃ b8, (gR S 0 b7 (v5).toNatClampNeg) = some b8 ∧ kd S b8 = 6 ∧ ∀ e9 : Int32, e9 = (v4 + (gI S 83 b8 0)) → wp_X2_weightWithin_55 K8 Q (v0) (v1) (v2) (e6) (e9) (v5) (S))))))
abbrev wp_X2_weightWithin_8  (Q : Int32 → Prop) (v0 : Nat) (v1 : Int32) (v2 : Int32) (v3 : Int32) (v4 : Int32) (v5 : Int32) (S : Hp) : Prop :=
  Lp (X := Int32 × Int32 × Int32) (fun K y => wb_X2_weightWithin_8  (fun w0 w1 w2 => K (w0, w1, w2)) Q v0 v1 v2 y.1 y.2.1 y.2.2 S) (v3, v4, v5)
abbrev wp_X2_weightWithin (a0 : Nat) (x1 : Int32) (x2 : Int32) (S : Hp) (Q : Int32 → Prop) : Prop :=
  wp_X2_weightWithin_8 Q (a0) (x1) (x2) ((0 : Int32)) ((0 : Int32)) ((0 : Int32)) (S)
set_option maxHeartbeats 4000000 in
set_option maxRecDepth 100000 in
theorem g_X2_weightWithin_72 (C : Cx p s m args meth c z cX2_weightWithin 6 RX2 (some .int) "weightWithin")  {Q : Int32 → Prop} {s0 : Int32} {S : Hp}   (hw : wp_X2_weightWithin_72  Q s0 S) : Go p l e { frames := 2, cells := 0, slots := 0, locals := 41 } s m args below meth c z 6 (MQ below (Qx z (pI S Q)) args s 0 0 (own z)) (0) (0) 72 [] [.int (s0)] (S) := by
  exact G_iret (pc := 72) C rfl dX2_weightWithin_72 ⟨rfl, _, rfl, hw⟩
set_option maxHeartbeats 4000000 in
set_option maxRecDepth 100000 in
theorem g_X2_weightWithin_55 (C : Cx p s m args meth c z cX2_weightWithin 6 RX2 (some .int) "weightWithin") {K8 : Int32 → Int32 → Int32 → Prop} {Q : Int32 → Prop} {v0 : Nat} {v1 : Int32} {v2 : Int32} {v3 : Int32} {v4 : Int32} {v5 : Int32} {S : Hp}  (hK8 : ∀ (w3 : Int32) (w4 : Int32) (w5 : Int32), K8 w3 w4 w5 → Go p l e { frames := 2, cells := 0, slots := 0, locals := 41 } s m args below meth c z 6 (MQ below (Qx z (pI S Q)) args s 0 0 (own z)) (0) (0) 8 [(0, .ref (v0)), (1, .int (v1)), (2, .int (v2)), (3, .int (w3)), (4, .int (w4)), (5, .int (w5))] [] (S)) (hw : wp_X2_weightWithin_55 K8 Q v0 v1 v2 v3 v4 v5 S) : Go p l e { frames := 2, cells := 0, slots := 0, locals := 41 } s m args below meth c z 6 (MQ below (Qx z (pI S Q)) args s 0 0 (own z)) (0) (0) 55 [(0, .ref (v0)), (1, .int (v1)), (2, .int (v2)), (3, .int (v3)), (4, .int (v4)), (5, .int (v5))] [] (S) := by
  obtain ⟨e1, he1⟩ : ∃ y : Int32, y = (v5 + 1) := ⟨_, rfl⟩
  have hw := hw e1 he1
  refine G_iinc (pc := 55) C [(5, .int (e1)), (0, .ref (v0)), (1, .int (v1)), (2, .int (v2)), (3, .int (v3)), (4, .int (v4))] 5 (v := e1) dX2_weightWithin_55 rfl (by rw [he1]; rfl) (by decide) rfl ?_
  clear he1
  refine G_goto (pc := 58) C 8 dX2_weightWithin_58 (by decide) ?_
  exact G_sub [1, 2, 3, 4, 5, 0] rfl (hK8 _ _ _ hw)
set_option maxHeartbeats 4000000 in
set_option maxRecDepth 100000 in
theorem gb_X2_weightWithin_8 (C : Cx p s m args meth c z cX2_weightWithin 6 RX2 (some .int) "weightWithin") {K8 : Int32 → Int32 → Int32 → Prop} {Q : Int32 → Prop} {v0 : Nat} {v1 : Int32} {v2 : Int32} {v3 : Int32} {v4 : Int32} {v5 : Int32} {S : Hp}  (hK8 : ∀ (w3 : Int32) (w4 : Int32) (w5 : Int32), K8 w3 w4 w5 → Go p l e { frames := 2, cells := 0, slots := 0, locals := 41 } s m args below meth c z 6 (MQ below (Qx z (pI S Q)) args s 0 0 (own z)) (0) (0) 8 [(0, .ref (v0)), (1, .int (v1)), (2, .int (v2)), (3, .int (w3)), (4, .int (w4)), (5, .int (w5))] [] (S)) (hw : wb_X2_weightWithin_8  K8 Q v0 v1 v2 v3 v4 v5 S) : Go p l e { frames := 2, cells := 0, slots := 0, locals := 41 } s m args below meth c z 6 (MQ below (Qx z (pI S Q)) args s 0 0 (own z)) (0) (0) 8 [(0, .ref (v0)), (1, .int (v1)), (2, .int (v2)), (3, .int (v3)), (4, .int (v4)), (5, .int (v5))] [] (S) := by
  refine G_iload (pc := 8) C 5 dX2_weightWithin_8 rfl ?_
  refine G_aload_n (pc := 10) C 0 dX2_weightWithin_10 rfl rfl ?_
  obtain ⟨hk, hw⟩ := hw
  refine gf_RX2_20 (pc := 11) C dX2_weightWithin_11 hk ?_
  refine G_icmp_ge (pc := 14) C 61 dX2_weightWithin_14 (by decide) (fun hc => ?_) (fun hc => ?_)
  · have hw := hw.1 hc
    refine G_iload_n (pc := 61) C 3 dX2_weightWithin_61 rfl rfl ?_
    refine G_iload_n (pc := 62) C 2 dX2_weightWithin_62 rfl rfl ?_
    refine G_icmp_gt (pc := 63) C 71 dX2_weightWithin_63 (by decide) (fun hc => ?_) (fun hc => ?_)
    · have hw := hw.1 hc
      refine G_iconst (pc := 71) C (v := -1) dX2_weightWithin_71 (by decide) ?_
      exact G_sub [] rfl (g_X2_weightWithin_72 C  hw)
    · have hw := hw.2 hc
      refine G_iload (pc := 66) C 4 dX2_weightWithin_66 rfl ?_
      refine G_goto (pc := 68) C 72 dX2_weightWithin_68 (by decide) ?_
      exact G_sub [] rfl (g_X2_weightWithin_72 C  hw)
  · have hw := hw.2 hc
    refine G_iload_n (pc := 17) C 1 dX2_weightWithin_17 rfl rfl ?_
    refine G_iload (pc := 18) C 5 dX2_weightWithin_18 rfl ?_
    refine G_ishr (pc := 20) C dX2_weightWithin_20 ?_
    refine G_iconst (pc := 21) C (v := 1) dX2_weightWithin_21 (by decide) ?_
    refine G_iand (pc := 22) C dX2_weightWithin_22 ?_
    refine G_iconst (pc := 23) C (v := 1) dX2_weightWithin_23 (by decide) ?_
    refine G_icmp_ne (pc := 24) C 55 dX2_weightWithin_24 (by decide) (fun hc => ?_) (fun hc => ?_)
    · have hw := hw.1 hc
      exact G_sub [0, 1, 2, 3, 4, 5] rfl (g_X2_weightWithin_55 C hK8 hw)
    · have hw := hw.2 hc
      refine G_iload_n (pc := 27) C 3 dX2_weightWithin_27 rfl rfl ?_
      refine G_aload_n (pc := 28) C 0 dX2_weightWithin_28 rfl rfl ?_
      obtain ⟨hk, hw⟩ := hw
      refine gf_RX2_11 (pc := 29) C dX2_weightWithin_29 hk ?_
      refine G_iload (pc := 32) C 5 dX2_weightWithin_32 rfl ?_
      obtain ⟨b2, hq, hw⟩ := hw
      rw [hq]
      obtain ⟨hk, hi, hw⟩ := hw
      refine G_aald (pc := 34) C 3 rfl (by decide) rfl hk hi dX2_weightWithin_34 ?_
      obtain ⟨b3, hq, hw⟩ := hw
      rw [hq]
      obtain ⟨hk, hw⟩ := hw
      refine cl_RX2_34 (pc := 35) C (c_X5_stripes l z (b3) S _ hw) ⟨Nat.le_of_ble_eq_true rfl, Nat.le_of_ble_eq_true rfl⟩ hk dX2_weightWithin_35 (Nat.le_of_ble_eq_true rfl) (fun v S' hp => ?_)
      clear hw
      obtain ⟨hS, e4, rfl, hw⟩ := hp
      subst S'
      refine G_iadd (pc := 38) C dX2_weightWithin_38 ?_
      refine G_topi (fun e6 he6 => ?_)
      have hw := hw e6 he6
      clear he6
      refine G_istore_n (pc := 39) C [(3, .int (e6)), (0, .ref (v0)), (1, .int (v1)), (2, .int (v2)), (4, .int (v4)), (5, .int (v5))] dX2_weightWithin_39 rfl (by decide) rfl ?_
      refine G_iload (pc := 40) C 4 dX2_weightWithin_40 rfl ?_
      refine G_aload_n (pc := 42) C 1 dX2_weightWithin_42 rfl rfl ?_
      obtain ⟨hk, hw⟩ := hw
      refine gf_RX2_11 (pc := 43) C dX2_weightWithin_43 hk ?_
      refine G_iload (pc := 46) C 5 dX2_weightWithin_46 rfl ?_
      obtain ⟨b7, hq, hw⟩ := hw
      rw [hq]
      obtain ⟨hk, hi, hw⟩ := hw
      refine G_aald (pc := 48) C 3 rfl (by decide) rfl hk hi dX2_weightWithin_48 ?_
      obtain ⟨b8, hq, hw⟩ := hw
      rw [hq]
      obtain ⟨hk, hw⟩ := hw
      refine gf_RX2_38 (pc := 49) C dX2_weightWithin_49 hk ?_
      refine G_iadd (pc := 52) C dX2_weightWithin_52 ?_
      refine G_topi (fun e9 he9 => ?_)
      have hw := hw e9 he9
      clear he9
      refine G_istore (pc := 53) C [(4, .int (e9)), (3, .int (e6)), (0, .ref (v0)), (1, .int (v1)), (2, .int (v2)), (5, .int (v5))] dX2_weightWithin_53 (by decide) rfl ?_
      exact G_sub [2, 3, 4, 1, 0, 5] rfl (g_X2_weightWithin_55 C hK8 hw)
set_option maxHeartbeats 4000000 in
set_option maxRecDepth 100000 in
theorem g_X2_weightWithin_8 (C : Cx p s m args meth c z cX2_weightWithin 6 RX2 (some .int) "weightWithin")  {Q : Int32 → Prop} {v0 : Nat} {v1 : Int32} {v2 : Int32} {v3 : Int32} {v4 : Int32} {v5 : Int32} {S : Hp}   (hw : wp_X2_weightWithin_8  Q v0 v1 v2 v3 v4 v5 S) : Go p l e { frames := 2, cells := 0, slots := 0, locals := 41 } s m args below meth c z 6 (MQ below (Qx z (pI S Q)) args s 0 0 (own z)) (0) (0) 8 [(0, .ref (v0)), (1, .int (v1)), (2, .int (v2)), (3, .int (v3)), (4, .int (v4)), (5, .int (v5))] [] (S) :=
  Lp_go (G := fun y : Int32 × Int32 × Int32 => Go p l e { frames := 2, cells := 0, slots := 0, locals := 41 } s m args below meth c z 6 (MQ below (Qx z (pI S Q)) args s 0 0 (own z)) (0) (0) 8 [(0, .ref (v0)), (1, .int (v1)), (2, .int (v2)), (3, .int (y.1)), (4, .int (y.2.1)), (5, .int (y.2.2))] [] (S)) (fun K y hK hB => gb_X2_weightWithin_8 C  (fun w0 w1 w2 h => hK (w0, w1, w2) h) hB) hw
set_option maxHeartbeats 4000000 in
set_option maxRecDepth 100000 in
theorem c_X2_weightWithin (l : Launch) (z : Zt) (a0 : Nat) (x1 : Int32) (x2 : Int32) (S : Hp) (Q : Int32 → Prop) (hw : wp_X2_weightWithin a0 x1 x2 S Q) : Ct l z yX2_weightWithin cX2_weightWithin 6 (some .int) 2 41 0 0 [.ref (a0), .int (x1), .int (x2)] S (pI S Q) := by
  refine Ct_of (by decide) (Nat.le_of_ble_eq_true rfl) ?_
  intro p e s m args below meth c C
  have C : Cx p s m args meth c z cX2_weightWithin 6 RX2 (some .int) "weightWithin" := C
  refine G_sub (lv' := [(0, .ref (a0)), (1, .int (x1)), (2, .int (x2))]) [0, 1, 2] rfl ?_
  refine G_iconst (pc := 0) C (v := 0) dX2_weightWithin_0 (by decide) ?_
  refine G_istore_n (pc := 1) C [(3, .int ((0 : Int32))), (0, .ref (a0)), (1, .int (x1)), (2, .int (x2))] dX2_weightWithin_1 rfl (by decide) rfl ?_
  refine G_iconst (pc := 2) C (v := 0) dX2_weightWithin_2 (by decide) ?_
  refine G_istore (pc := 3) C [(4, .int ((0 : Int32))), (3, .int ((0 : Int32))), (0, .ref (a0)), (1, .int (x1)), (2, .int (x2))] dX2_weightWithin_3 (by decide) rfl ?_
  refine G_iconst (pc := 5) C (v := 0) dX2_weightWithin_5 (by decide) ?_
  refine G_istore (pc := 6) C [(5, .int ((0 : Int32))), (4, .int ((0 : Int32))), (3, .int ((0 : Int32))), (0, .ref (a0)), (1, .int (x1)), (2, .int (x2))] dX2_weightWithin_6 (by decide) rfl ?_
  exact G_sub [3, 4, 5, 2, 1, 0] rfl (g_X2_weightWithin_8 C  hw)
/-! FirstParts$Line.heaviestWithin(I)I -/
abbrev wp_X2_heaviestWithin_39 (K7 : Int32 → Int32 → Int32 → Prop) (Q : Int32 → Prop) (v0 : Nat) (v1 : Int32) (v2 : Int32) (v3 : Int32) (v4 : Int32) (S : Hp) : Prop :=
  ∀ e3 : Int32, e3 = (v4 + 1) → K7 (v2) (v3) (e3)
abbrev wb_X2_heaviestWithin_7  (K7 : Int32 → Int32 → Int32 → Prop) (Q : Int32 → Prop) (v0 : Nat) (v1 : Int32) (v2 : Int32) (v3 : Int32) (v4 : Int32) (S : Hp) : Prop :=
  kd S v0 = 3 ∧ ((((1 : Int32) <<< ((gI S 34 v0 0) &&& 31)) ≤ v4 → Q v2) ∧ (¬ ((1 : Int32) <<< ((gI S 34 v0 0) &&& 31)) ≤ v4 → kd S v0 = 3 ∧ wp_X2_weightWithin (v0) (v4) (v1) S (fun e1 => ((e1 < v3 → wp_X2_heaviestWithin_39 K7 Q (v0) (v1) (v2) (v3) (v4) (S)) ∧ (¬ e1 < v3 → wp_X2_heaviestWithin_39 K7 Q (v0) (v1) (v4) (e1) (v4) (S))))))
abbrev wp_X2_heaviestWithin_7  (Q : Int32 → Prop) (v0 : Nat) (v1 : Int32) (v2 : Int32) (v3 : Int32) (v4 : Int32) (S : Hp) : Prop :=
  Lp (X := Int32 × Int32 × Int32) (fun K y => wb_X2_heaviestWithin_7  (fun w0 w1 w2 => K (w0, w1, w2)) Q v0 v1 y.1 y.2.1 y.2.2 S) (v2, v3, v4)
abbrev wp_X2_heaviestWithin (a0 : Nat) (x1 : Int32) (S : Hp) (Q : Int32 → Prop) : Prop :=
  wp_X2_heaviestWithin_7 Q (a0) (x1) ((0 : Int32)) ((0 : Int32)) ((0 : Int32)) (S)
set_option maxHeartbeats 4000000 in
set_option maxRecDepth 100000 in
theorem g_X2_heaviestWithin_39 (C : Cx p s m args meth c z cX2_heaviestWithin 6 RX2 (some .int) "heaviestWithin") {K7 : Int32 → Int32 → Int32 → Prop} {Q : Int32 → Prop} {v0 : Nat} {v1 : Int32} {v2 : Int32} {v3 : Int32} {v4 : Int32} {S : Hp}  (hK7 : ∀ (w2 : Int32) (w3 : Int32) (w4 : Int32), K7 w2 w3 w4 → Go p l e { frames := 3, cells := 0, slots := 0, locals := 66 } s m args below meth c z 6 (MQ below (Qx z (pI S Q)) args s 0 0 (own z)) (0) (0) 7 [(0, .ref (v0)), (1, .int (v1)), (2, .int (w2)), (3, .int (w3)), (4, .int (w4))] [] (S)) (hw : wp_X2_heaviestWithin_39 K7 Q v0 v1 v2 v3 v4 S) : Go p l e { frames := 3, cells := 0, slots := 0, locals := 66 } s m args below meth c z 6 (MQ below (Qx z (pI S Q)) args s 0 0 (own z)) (0) (0) 39 [(0, .ref (v0)), (1, .int (v1)), (2, .int (v2)), (3, .int (v3)), (4, .int (v4))] [] (S) := by
  obtain ⟨e3, he3⟩ : ∃ y : Int32, y = (v4 + 1) := ⟨_, rfl⟩
  have hw := hw e3 he3
  refine G_iinc (pc := 39) C [(4, .int (e3)), (0, .ref (v0)), (1, .int (v1)), (2, .int (v2)), (3, .int (v3))] 4 (v := e3) dX2_heaviestWithin_39 rfl (by rw [he3]; rfl) (by decide) rfl ?_
  clear he3
  refine G_goto (pc := 42) C 7 dX2_heaviestWithin_42 (by decide) ?_
  exact G_sub [1, 2, 3, 4, 0] rfl (hK7 _ _ _ hw)
set_option maxHeartbeats 4000000 in
set_option maxRecDepth 100000 in
theorem gb_X2_heaviestWithin_7 (C : Cx p s m args meth c z cX2_heaviestWithin 6 RX2 (some .int) "heaviestWithin") {K7 : Int32 → Int32 → Int32 → Prop} {Q : Int32 → Prop} {v0 : Nat} {v1 : Int32} {v2 : Int32} {v3 : Int32} {v4 : Int32} {S : Hp}  (hK7 : ∀ (w2 : Int32) (w3 : Int32) (w4 : Int32), K7 w2 w3 w4 → Go p l e { frames := 3, cells := 0, slots := 0, locals := 66 } s m args below meth c z 6 (MQ below (Qx z (pI S Q)) args s 0 0 (own z)) (0) (0) 7 [(0, .ref (v0)), (1, .int (v1)), (2, .int (w2)), (3, .int (w3)), (4, .int (w4))] [] (S)) (hw : wb_X2_heaviestWithin_7  K7 Q v0 v1 v2 v3 v4 S) : Go p l e { frames := 3, cells := 0, slots := 0, locals := 66 } s m args below meth c z 6 (MQ below (Qx z (pI S Q)) args s 0 0 (own z)) (0) (0) 7 [(0, .ref (v0)), (1, .int (v1)), (2, .int (v2)), (3, .int (v3)), (4, .int (v4))] [] (S) := by
  refine G_iload (pc := 7) C 4 dX2_heaviestWithin_7 rfl ?_
  refine G_iconst (pc := 9) C (v := 1) dX2_heaviestWithin_9 (by decide) ?_
  refine G_aload_n (pc := 10) C 0 dX2_heaviestWithin_10 rfl rfl ?_
  obtain ⟨hk, hw⟩ := hw
  refine gf_RX2_20 (pc := 11) C dX2_heaviestWithin_11 hk ?_
  refine G_ishl (pc := 14) C dX2_heaviestWithin_14 ?_
  refine G_icmp_ge (pc := 15) C 45 dX2_heaviestWithin_15 (by decide) (fun hc => ?_) (fun hc => ?_)
  · have hw := hw.1 hc
    refine G_iload_n (pc := 45) C 2 dX2_heaviestWithin_45 rfl rfl ?_
    exact G_iret (pc := 46) C rfl dX2_heaviestWithin_46 ⟨rfl, _, rfl, hw⟩
  · have hw := hw.2 hc
    refine G_aload_n (pc := 18) C 0 dX2_heaviestWithin_18 rfl rfl ?_
    refine G_iload (pc := 19) C 4 dX2_heaviestWithin_19 rfl ?_
    refine G_iload_n (pc := 21) C 1 dX2_heaviestWithin_21 rfl rfl ?_
    obtain ⟨hk, hw⟩ := hw
    refine cl_RX2_47 (pc := 22) C (c_X2_weightWithin l z (v0) (v4) (v1) S _ hw) ⟨Nat.le_of_ble_eq_true rfl, Nat.le_of_ble_eq_true rfl⟩ hk dX2_heaviestWithin_22 (Nat.le_of_ble_eq_true rfl) (fun v S' hp => ?_)
    clear hw
    obtain ⟨hS, e1, rfl, hw⟩ := hp
    subst S'
    refine G_istore (pc := 25) C [(5, .int (e1)), (0, .ref (v0)), (1, .int (v1)), (2, .int (v2)), (3, .int (v3)), (4, .int (v4))] dX2_heaviestWithin_25 (by decide) rfl ?_
    refine G_iload (pc := 27) C 0 dX2_heaviestWithin_27 rfl ?_
    refine G_iload_n (pc := 29) C 4 dX2_heaviestWithin_29 rfl rfl ?_
    refine G_icmp_lt (pc := 30) C 39 dX2_heaviestWithin_30 (by decide) (fun hc => ?_) (fun hc => ?_)
    · have hw := hw.1 hc
      exact G_sub [1, 2, 3, 4, 5] rfl (g_X2_heaviestWithin_39 C hK7 hw)
    · have hw := hw.2 hc
      refine G_iload (pc := 33) C 5 dX2_heaviestWithin_33 rfl ?_
      refine G_istore_n (pc := 35) C [(2, .int (v4)), (5, .int (e1)), (0, .ref (v0)), (1, .int (v1)), (3, .int (v3)), (4, .int (v4))] dX2_heaviestWithin_35 rfl (by decide) rfl ?_
      refine G_iload (pc := 36) C 1 dX2_heaviestWithin_36 rfl ?_
      refine G_istore_n (pc := 38) C [(3, .int (e1)), (2, .int (v4)), (5, .int (e1)), (0, .ref (v0)), (1, .int (v1)), (4, .int (v4))] dX2_heaviestWithin_38 rfl (by decide) rfl ?_
      exact G_sub [3, 4, 1, 0, 5] rfl (g_X2_heaviestWithin_39 C hK7 hw)
set_option maxHeartbeats 4000000 in
set_option maxRecDepth 100000 in
theorem g_X2_heaviestWithin_7 (C : Cx p s m args meth c z cX2_heaviestWithin 6 RX2 (some .int) "heaviestWithin")  {Q : Int32 → Prop} {v0 : Nat} {v1 : Int32} {v2 : Int32} {v3 : Int32} {v4 : Int32} {S : Hp}   (hw : wp_X2_heaviestWithin_7  Q v0 v1 v2 v3 v4 S) : Go p l e { frames := 3, cells := 0, slots := 0, locals := 66 } s m args below meth c z 6 (MQ below (Qx z (pI S Q)) args s 0 0 (own z)) (0) (0) 7 [(0, .ref (v0)), (1, .int (v1)), (2, .int (v2)), (3, .int (v3)), (4, .int (v4))] [] (S) :=
  Lp_go (G := fun y : Int32 × Int32 × Int32 => Go p l e { frames := 3, cells := 0, slots := 0, locals := 66 } s m args below meth c z 6 (MQ below (Qx z (pI S Q)) args s 0 0 (own z)) (0) (0) 7 [(0, .ref (v0)), (1, .int (v1)), (2, .int (y.1)), (3, .int (y.2.1)), (4, .int (y.2.2))] [] (S)) (fun K y hK hB => gb_X2_heaviestWithin_7 C  (fun w0 w1 w2 h => hK (w0, w1, w2) h) hB) hw
set_option maxHeartbeats 4000000 in
set_option maxRecDepth 100000 in
theorem c_X2_heaviestWithin (l : Launch) (z : Zt) (a0 : Nat) (x1 : Int32) (S : Hp) (Q : Int32 → Prop) (hw : wp_X2_heaviestWithin a0 x1 S Q) : Ct l z yX2_heaviestWithin cX2_heaviestWithin 6 (some .int) 3 66 0 0 [.ref (a0), .int (x1)] S (pI S Q) := by
  refine Ct_of (by decide) (Nat.le_of_ble_eq_true rfl) ?_
  intro p e s m args below meth c C
  have C : Cx p s m args meth c z cX2_heaviestWithin 6 RX2 (some .int) "heaviestWithin" := C
  refine G_sub (lv' := [(0, .ref (a0)), (1, .int (x1))]) [0, 1] rfl ?_
  refine G_iconst (pc := 0) C (v := 0) dX2_heaviestWithin_0 (by decide) ?_
  refine G_istore_n (pc := 1) C [(2, .int ((0 : Int32))), (0, .ref (a0)), (1, .int (x1))] dX2_heaviestWithin_1 rfl (by decide) rfl ?_
  refine G_iconst (pc := 2) C (v := 0) dX2_heaviestWithin_2 (by decide) ?_
  refine G_istore_n (pc := 3) C [(3, .int ((0 : Int32))), (2, .int ((0 : Int32))), (0, .ref (a0)), (1, .int (x1))] dX2_heaviestWithin_3 rfl (by decide) rfl ?_
  refine G_iconst (pc := 4) C (v := 0) dX2_heaviestWithin_4 (by decide) ?_
  refine G_istore (pc := 5) C [(4, .int ((0 : Int32))), (3, .int ((0 : Int32))), (2, .int ((0 : Int32))), (0, .ref (a0)), (1, .int (x1))] dX2_heaviestWithin_5 (by decide) rfl ?_
  exact G_sub [3, 4, 2, 1, 0] rfl (g_X2_heaviestWithin_7 C  hw)
end W12lineleantxt
