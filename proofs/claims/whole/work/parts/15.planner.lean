section W15plannerleantxt
variable {p : Program} {l : Launch} {e : Env} {R : Room} {s : State} {m : MethodId} {args : Array Value} {below : List Frame} {meth : Method} {c : Code} {z : Zt} {cc : ByteArray} {nL : Nat} {ow : String} {ret : Option FieldType} {nm : String} {Q : State → Prop} {bc bs pc : Nat} {lv : List (Nat × Value)} {st : List Value} {S : Hp}
theorem oi_RX6_3 : Cond.methodLink RX6 3 Lib.objectInit ∈ gt := gt_t 166 (by decide +kernel) rfl
theorem pf_RX6_11 (C : Cx p s m args meth c z cc nL RX6 ret nm) {a : Nat} {v : Option Nat} (hfn : nm = "<init>") (hd : decode cc pc = .ok (.putfield 11, 3)) (hk : kd S a = 7) (k : Go p l e R s m args below meth c z nL Q bc bs (pc + 3) lv st (sR S 97 a 0 v)) : Go p l e R s m args below meth c z nL Q bc bs pc lv (va_rf v :: .ref a :: st) S := G_putR C 6 0 3 rfl rfl (by decide) in_X6 tyX6 tyX6_ok nmX6 rfl rfl (gt_t 169 (by decide +kernel) rfl) (Or.inr ⟨rfl, hfn, rfl⟩) (fun _ => rfl) rfl (fun _ => rfl) rfl hd hk k
theorem pf_RX6_16 (C : Cx p s m args meth c z cc nL RX6 ret nm) {a : Nat} {v : Option Nat} (hfn : nm = "<init>") (hd : decode cc pc = .ok (.putfield 16, 3)) (hk : kd S a = 7) (k : Go p l e R s m args below meth c z nL Q bc bs (pc + 3) lv st (sR S 98 a 0 v)) : Go p l e R s m args below meth c z nL Q bc bs pc lv (va_rf v :: .ref a :: st) S := G_putR C 6 1 3 rfl rfl (by decide) in_X6 tyX6 tyX6_ok nmX6 rfl rfl (gt_t 170 (by decide +kernel) rfl) (Or.inr ⟨rfl, hfn, rfl⟩) (fun _ => rfl) rfl (fun _ => rfl) rfl hd hk k
theorem cl_RX6_52 (C : Cx p s m args meth c z cc nL RX6 ret nm) {q0 : Int32} {q1 : Int32} {rest : List Value} {post : Option Value → Hp → Prop} (hm : Ct l z yJ9_min_7cf53 cJ9_min_7cf53 2 (some .int) 0 0 0 0 [.int (q0), .int (q1)] S post) (hR : 0 + 1 ≤ R.frames ∧ 8 + (2 + 11) + 0 ≤ R.locals) (hd : decode cc pc = .ok (.invokestatic 52, 3)) (hW : (rest.map fun v => v.category).sum ≤ 8) (k : ∀ (v : Option Value) (S' : Hp), post v S' → Go p l e R s m args below meth c z nL Q bc bs (pc + 3) lv (v.toList ++ rest) S') : Go p l e R s m args below meth c z nL Q bc bs pc lv (.int (q1) :: .int (q0) :: rest) S := G_callS C (gt_t 786 (by decide +kernel) rfl) (gt_t 217 (by decide +kernel) rfl) (gt_t 10 (by decide +kernel) rfl) (gt_t 218 (by decide +kernel) rfl) (dsc_J9_min_7cf53) hm rfl hR rfl hW hd k
theorem cl_RX6_63 (C : Cx p s m args meth c z cc nL RX6 ret nm) {q0 : Int32} {q1 : Int32} {rest : List Value} {post : Option Value → Hp → Prop} (hm : Ct l z yX11_stripesFor cX11_stripesFor 2 (some .int) 0 0 0 0 [.int (q0), .int (q1)] S post) (hR : 0 + 1 ≤ R.frames ∧ 8 + (2 + 11) + 0 ≤ R.locals) (hd : decode cc pc = .ok (.invokestatic 63, 3)) (hW : (rest.map fun v => v.category).sum ≤ 8) (k : ∀ (v : Option Value) (S' : Hp), post v S' → Go p l e R s m args below meth c z nL Q bc bs (pc + 3) lv (v.toList ++ rest) S') : Go p l e R s m args below meth c z nL Q bc bs pc lv (.int (q1) :: .int (q0) :: rest) S := G_callN C (by decide) (gt_t 232 (by decide +kernel) rfl) (gt_t 1 (by decide +kernel) rfl) (gt_t 233 (by decide +kernel) rfl) (dsc_X11_stripesFor) hm rfl hR rfl hW hd k
theorem gf_RX6_11 (C : Cx p s m args meth c z cc nL RX6 ret nm) {a : Nat} (hd : decode cc pc = .ok (.getfield 11, 3)) (hk : kd S a = 7) (k : Go p l e R s m args below meth c z nL Q bc bs (pc + 3) lv (va_rf (gR S 97 a 0) :: st) S) : Go p l e R s m args below meth c z nL Q bc bs pc lv (.ref a :: st) S := G_getR C 6 0 3 rfl rfl (by decide) in_X6 rfl rfl (gt_t 169 (by decide +kernel) rfl) hd hk k
theorem gf_RX6_58 (C : Cx p s m args meth c z cc nL RX6 ret nm) {a : Nat} (hd : decode cc pc = .ok (.getfield 58, 3)) (hk : kd S a = 6) (k : Go p l e R s m args below meth c z nL Q bc bs (pc + 3) lv (va_rf (gR S 81 a 0) :: st) S) : Go p l e R s m args below meth c z nL Q bc bs pc lv (.ref a :: st) S := G_getR C 5 0 3 rfl rfl (by decide) in_X5 rfl rfl (gt_t 122 (by decide +kernel) rfl) hd hk k
theorem gf_RX6_66 (C : Cx p s m args meth c z cc nL RX6 ret nm) {a : Nat} (hd : decode cc pc = .ok (.getfield 66, 3)) (hk : kd S a = 6) (k : Go p l e R s m args below meth c z nL Q bc bs (pc + 3) lv (.int (gI S 83 a 0) :: st) S) : Go p l e R s m args below meth c z nL Q bc bs pc lv (.ref a :: st) S := G_getI C 5 2 3 rfl rfl (by decide) in_X5 rfl rfl (gt_t 129 (by decide +kernel) rfl) hd hk k
theorem kw_RX6_36 : Cond.constant RX6 36 1000000 ∈ gt := gt_t 780 (by decide +kernel) rfl
theorem dsc_X6_costWith : dsc yX6_costWith 4 := ⟨by decide, by decide, by decide +kernel⟩
theorem cl_RX6_48 (C : Cx p s m args meth c z cc nL RX6 ret nm) {a : Nat} {q0 : Nat} {q1 : Int32} {q2 : Int32} {q3 : Int32} {rest : List Value} {post : Option Value → Hp → Prop} (hm : Ct l z yX6_costWith cX6_costWith 6 (some .int) 1 21 0 0 [.ref a, .ref (q0), .int (q1), .int (q2), .int (q3)] S post) (hR : 1 + 1 ≤ R.frames ∧ 8 + (6 + 11) + 21 ≤ R.locals) (hk : kd S a = 7) (hd : decode cc pc = .ok (.invokevirtual 48, 3)) (hW : (rest.map fun v => v.category).sum ≤ 8) (k : ∀ (v : Option Value) (S' : Hp), post v S' → Go p l e R s m args below meth c z nL Q bc bs (pc + 3) lv (v.toList ++ rest) S') : Go p l e R s m args below meth c z nL Q bc bs pc lv (.int (q3) :: .int (q2) :: .int (q1) :: .ref (q0) :: .ref a :: rest) S := G_callV C 6 3 rfl rfl (gt_t 781 (by decide +kernel) rfl) (gt_t 783 (by decide +kernel) rfl) (gt_s 16 (by decide +kernel) rfl) (gt_t 7 (by decide +kernel) rfl) (gt_t 784 (by decide +kernel) rfl) (dsc_X6_costWith) hm rfl hR hk rfl hW hd k
theorem gf_RX6_41 (C : Cx p s m args meth c z cc nL RX6 ret nm) {a : Nat} (hd : decode cc pc = .ok (.getfield 41, 3)) (hk : kd S a = 3) (k : Go p l e R s m args below meth c z nL Q bc bs (pc + 3) lv (.int (gI S 35 a 0) :: st) S) : Go p l e R s m args below meth c z nL Q bc bs pc lv (.ref a :: st) S := G_getI C 2 2 4 rfl rfl (by decide) in_X2 rfl rfl (gt_t 147 (by decide +kernel) rfl) hd hk k
theorem gf_RX6_44 (C : Cx p s m args meth c z cc nL RX6 ret nm) {a : Nat} (hd : decode cc pc = .ok (.getfield 44, 3)) (hk : kd S a = 3) (k : Go p l e R s m args below meth c z nL Q bc bs (pc + 3) lv (va_rf (gR S 33 a 0) :: st) S) : Go p l e R s m args below meth c z nL Q bc bs pc lv (.ref a :: st) S := G_getR C 2 0 4 rfl rfl (by decide) in_X2 rfl rfl (gt_t 141 (by decide +kernel) rfl) hd hk k
theorem cl_RX6_69 (C : Cx p s m args meth c z cc nL RX6 ret nm) {q0 : Int32} {q1 : Int32} {rest : List Value} {post : Option Value → Hp → Prop} (hm : Ct l z yJ9_max_7cf53 cJ9_max_7cf53 2 (some .int) 0 0 0 0 [.int (q0), .int (q1)] S post) (hR : 0 + 1 ≤ R.frames ∧ 8 + (2 + 11) + 0 ≤ R.locals) (hd : decode cc pc = .ok (.invokestatic 69, 3)) (hW : (rest.map fun v => v.category).sum ≤ 8) (k : ∀ (v : Option Value) (S' : Hp), post v S' → Go p l e R s m args below meth c z nL Q bc bs (pc + 3) lv (v.toList ++ rest) S') : Go p l e R s m args below meth c z nL Q bc bs pc lv (.int (q1) :: .int (q0) :: rest) S := G_callS C (gt_t 791 (by decide +kernel) rfl) (gt_t 220 (by decide +kernel) rfl) (gt_t 10 (by decide +kernel) rfl) (gt_t 221 (by decide +kernel) rfl) (dsc_J9_max_7cf53) hm rfl hR rfl hW hd k
theorem gf_RX6_16 (C : Cx p s m args meth c z cc nL RX6 ret nm) {a : Nat} (hd : decode cc pc = .ok (.getfield 16, 3)) (hk : kd S a = 7) (k : Go p l e R s m args below meth c z nL Q bc bs (pc + 3) lv (va_rf (gR S 98 a 0) :: st) S) : Go p l e R s m args below meth c z nL Q bc bs pc lv (.ref a :: st) S := G_getR C 6 1 3 rfl rfl (by decide) in_X6 rfl rfl (gt_t 170 (by decide +kernel) rfl) hd hk k
theorem gf_RX6_20 (C : Cx p s m args meth c z cc nL RX6 ret nm) {a : Nat} (hd : decode cc pc = .ok (.getfield 20, 3)) (hk : kd S a = 3) (k : Go p l e R s m args below meth c z nL Q bc bs (pc + 3) lv (.int (gI S 34 a 0) :: st) S) : Go p l e R s m args below meth c z nL Q bc bs pc lv (.ref a :: st) S := G_getI C 2 1 4 rfl rfl (by decide) in_X2 rfl rfl (gt_t 144 (by decide +kernel) rfl) hd hk k
theorem gf_RX6_26 (C : Cx p s m args meth c z cc nL RX6 ret nm) {a : Nat} (hd : decode cc pc = .ok (.getfield 26, 3)) (hk : kd S a = 3) (k : Go p l e R s m args below meth c z nL Q bc bs (pc + 3) lv (.int (gI S 36 a 0) :: st) S) : Go p l e R s m args below meth c z nL Q bc bs pc lv (.ref a :: st) S := G_getI C 2 3 4 rfl rfl (by decide) in_X2 rfl rfl (gt_t 150 (by decide +kernel) rfl) hd hk k
theorem dsc_X6_leastFrom : dsc yX6_leastFrom 3 := ⟨by decide, by decide, by decide +kernel⟩
theorem cl_RX6_29 (C : Cx p s m args meth c z cc nL RX6 ret nm) {a : Nat} {q0 : Nat} {q1 : Int32} {q2 : Int32} {rest : List Value} {post : Option Value → Hp → Prop} (hm : Ct l z yX6_leastFrom cX6_leastFrom 6 (some .int) 2 46 0 0 [.ref a, .ref (q0), .int (q1), .int (q2)] S post) (hR : 2 + 1 ≤ R.frames ∧ 8 + (6 + 11) + 46 ≤ R.locals) (hk : kd S a = 7) (hd : decode cc pc = .ok (.invokevirtual 29, 3)) (hW : (rest.map fun v => v.category).sum ≤ 8) (k : ∀ (v : Option Value) (S' : Hp), post v S' → Go p l e R s m args below meth c z nL Q bc bs (pc + 3) lv (v.toList ++ rest) S') : Go p l e R s m args below meth c z nL Q bc bs pc lv (.int (q2) :: .int (q1) :: .ref (q0) :: .ref a :: rest) S := G_callV C 6 3 rfl rfl (gt_t 776 (by decide +kernel) rfl) (gt_t 778 (by decide +kernel) rfl) (gt_s 15 (by decide +kernel) rfl) (gt_t 7 (by decide +kernel) rfl) (gt_t 779 (by decide +kernel) rfl) (dsc_X6_leastFrom) hm rfl hR hk rfl hW hd k
theorem dsc_X6_chooseNeeds : dsc yX6_chooseNeeds 1 := ⟨by decide, by decide, by decide +kernel⟩
theorem cl_RX6_37 (C : Cx p s m args meth c z cc nL RX6 ret nm) {a : Nat} {q0 : Nat} {rest : List Value} {post : Option Value → Hp → Prop} (hm : Ct l z yX6_chooseNeeds cX6_chooseNeeds 5 none 2 46 0 0 [.ref a, .ref (q0)] S post) (hR : 2 + 1 ≤ R.frames ∧ 8 + (5 + 11) + 46 ≤ R.locals) (hk : kd S a = 7) (hd : decode cc pc = .ok (.invokevirtual 37, 3)) (hW : (rest.map fun v => v.category).sum ≤ 8) (k : ∀ (v : Option Value) (S' : Hp), post v S' → Go p l e R s m args below meth c z nL Q bc bs (pc + 3) lv (v.toList ++ rest) S') : Go p l e R s m args below meth c z nL Q bc bs pc lv (.ref (q0) :: .ref a :: rest) S := G_callV C 6 3 rfl rfl (gt_t 787 (by decide +kernel) rfl) (gt_t 789 (by decide +kernel) rfl) (gt_s 17 (by decide +kernel) rfl) (gt_t 7 (by decide +kernel) rfl) (gt_t 790 (by decide +kernel) rfl) (dsc_X6_chooseNeeds) hm rfl hR hk rfl hW hd k
theorem gf_RX6_33 (C : Cx p s m args meth c z cc nL RX6 ret nm) {a : Nat} (hd : decode cc pc = .ok (.getfield 33, 3)) (hk : kd S a = 7) (k : Go p l e R s m args below meth c z nL Q bc bs (pc + 3) lv (.int (gI S 99 a 0) :: st) S) : Go p l e R s m args below meth c z nL Q bc bs pc lv (.ref a :: st) S := G_getI C 6 2 3 rfl rfl (by decide) in_X6 rfl rfl (gt_t 172 (by decide +kernel) rfl) hd hk k
theorem pf_RX6_33 (C : Cx p s m args meth c z cc nL RX6 ret nm) {a : Nat} {v : Int32} (hd : decode cc pc = .ok (.putfield 33, 3)) (hk : kd S a = 7) (k : Go p l e R s m args below meth c z nL Q bc bs (pc + 3) lv st (sI S 99 a 0 v)) : Go p l e R s m args below meth c z nL Q bc bs pc lv (.int v :: .ref a :: st) S := G_putI C 6 2 3 rfl rfl (by decide) in_X6 tyX6 tyX6_ok nmX6 rfl rfl (gt_t 172 (by decide +kernel) rfl) (Or.inl rfl) rfl rfl hd hk k
/-! FirstParts$Planner.<init>()V -/
abbrev wp_X6_init (a0 : Nat) (S : Hp) (Q : Hp → Prop) : Prop :=
  8 ≤ 9 ∧ 294 ≤ 300 ∧ ∀ n1 : Nat, n1 = sz S → ∀ S2 : Hp, S2 = nw2 S → kd S2 a0 = 7 ∧ ∀ S3 : Hp, S3 = sR S2 97 a0 0 (some n1) → 1 ≤ (9 - 8) ∧ 6 ≤ (300 - 294) ∧ ∀ n4 : Nat, n4 = sz S3 → ∀ S5 : Hp, S5 = nw S3 20 (6) → kd S5 a0 = 7 ∧ ∀ S6 : Hp, S6 = sR S5 98 a0 0 (some n4) → Q S6
set_option maxHeartbeats 4000000 in
set_option maxRecDepth 100000 in
theorem c_X6_init (l : Launch) (z : Zt) (a0 : Nat) (S : Hp) (Q : Hp → Prop) (hw : wp_X6_init a0 S Q) : Ct l z yX6_init cX6_init 1 none 1 20 9 300 [.ref (a0)] S (wV Q) := by
  refine Ct_of (by decide) (Nat.le_of_ble_eq_true rfl) ?_
  intro p e s m args below meth c C
  have C : Cx p s m args meth c z cX6_init 1 RX6 none "<init>" := C
  refine G_sub (lv' := [(0, .ref (a0))]) [0] rfl ?_
  refine G_aload_n (pc := 0) C 0 dX6_init_0 rfl rfl ?_
  refine G_objInit (pc := 1) C oi_RX6_3 (by decide) (by decide) dX6_init_1 ?_
  refine G_aload_n (pc := 4) C 0 dX6_init_4 rfl rfl ?_
  refine G_bipush (pc := 5) C (v := 7) dX6_init_5 (by decide) ?_
  refine G_bipush (pc := 7) C (v := 41) dX6_init_7 (by decide) ?_
  obtain ⟨hb1, hb2, hw⟩ := hw
  refine G_less (bc' := (9 - 8) + 8) (bs' := (300 - 294) + 294) (by omega) (by omega) ?_
  refine G_multi (pc := 9) C dX6_init_9 ?_
  obtain ⟨n1, hn1⟩ : ∃ y : Nat, y = sz S := ⟨_, rfl⟩
  obtain ⟨S2, hS2⟩ : ∃ y : Hp, y = nw2 S := ⟨_, rfl⟩
  have hw := hw n1 hn1 S2 hS2
  rw [← hn1]
  rw [← hS2]
  clear hn1 hS2
  obtain ⟨hk, hw⟩ := hw
  refine pf_RX6_11 (pc := 13) C rfl (v := some n1) dX6_init_13 hk ?_
  obtain ⟨S3, hS3⟩ : ∃ y : Hp, y = sR S2 97 a0 0 (some n1) := ⟨_, rfl⟩
  have hw := hw S3 hS3
  rw [← hS3]
  clear hS3
  refine G_aload_n (pc := 16) C 0 dX6_init_16 rfl rfl ?_
  refine G_bipush (pc := 17) C (v := 6) dX6_init_17 (by decide) ?_
  obtain ⟨hb1, hb2, hw⟩ := hw
  refine G_less (bc' := ((9 - 8) - 1) + 1) (bs' := ((300 - 294) - 6) + 6) (by omega) (by omega) ?_
  refine G_newa (pc := 19) C (n := (6 : Int32)) 6 w_aI (by decide) (by decide) (by decide) dX6_init_19 ?_
  obtain ⟨n4, hn4⟩ : ∃ y : Nat, y = sz S3 := ⟨_, rfl⟩
  obtain ⟨S5, hS5⟩ : ∃ y : Hp, y = nw S3 20 (6) := ⟨_, rfl⟩
  have hw := hw n4 hn4 S5 hS5
  rw [← hn4]
  rw [← hS5]
  clear hn4 hS5
  obtain ⟨hk, hw⟩ := hw
  refine pf_RX6_16 (pc := 21) C rfl (v := some n4) dX6_init_21 hk ?_
  obtain ⟨S6, hS6⟩ : ∃ y : Hp, y = sR S5 98 a0 0 (some n4) := ⟨_, rfl⟩
  have hw := hw S6 hS6
  rw [← hS6]
  clear hS6
  exact G_vret (pc := 24) C rfl dX6_init_24 ⟨rfl, hw⟩
/-! FirstParts$Planner.costWith(LFirstParts$Part;III)I -/
abbrev wp_X6_costWith_47  (Q : Int32 → Prop) (s0 : Int32) (S : Hp) : Prop :=
  Q s0
abbrev wp_X6_costWith (a0 : Nat) (a1 : Nat) (x2 : Int32) (x3 : Int32) (x4 : Int32) (S : Hp) (Q : Int32 → Prop) : Prop :=
  kd S a1 = 6 ∧ ∃ b1, (gR S 81 a1 0) = some b1 ∧ kd S b1 = 20 ∧ wp_X11_stripesFor ((Int32.ofNat (ln S b1))) (x2) S (fun e2 => ∀ e4 : Int32, e4 = (x4 - e2) → ((0 ≤ e4 → kd S a1 = 6 ∧ kd S a0 = 7 ∧ ∃ b5, (gR S 97 a0 0) = some b5 ∧ kd S b5 = 25 ∧ vp_in (x3 + (1 : Int32)) (ln S b5) ∧ ∃ b6, (gR S 0 b5 ((x3 + (1 : Int32))).toNatClampNeg) = some b6 ∧ kd S b6 = 20 ∧ vp_in e4 (ln S b6) ∧ wp_J9_min_7cf53 ((1000000 : Int32)) ((((gI S 83 a1 0) * x2) + (gI S 0 b6 (e4).toNatClampNeg))) S (fun e7 => wp_X6_costWith_47 Q (e7) (S))) ∧ (¬ 0 ≤ e4 → wp_X6_costWith_47 Q ((1000000 : Int32)) (S))))
set_option maxHeartbeats 4000000 in
set_option maxRecDepth 100000 in
theorem g_X6_costWith_47 (C : Cx p s m args meth c z cX6_costWith 6 RX6 (some .int) "costWith")  {Q : Int32 → Prop} {s0 : Int32} {S : Hp}   (hw : wp_X6_costWith_47  Q s0 S) : Go p l e { frames := 1, cells := 0, slots := 0, locals := 21 } s m args below meth c z 6 (MQ below (Qx z (pI S Q)) args s 0 0 (own z)) (0) (0) 47 [] [.int (s0)] (S) := by
  exact G_iret (pc := 47) C rfl dX6_costWith_47 ⟨rfl, _, rfl, hw⟩
set_option maxHeartbeats 4000000 in
set_option maxRecDepth 100000 in
theorem c_X6_costWith (l : Launch) (z : Zt) (a0 : Nat) (a1 : Nat) (x2 : Int32) (x3 : Int32) (x4 : Int32) (S : Hp) (Q : Int32 → Prop) (hw : wp_X6_costWith a0 a1 x2 x3 x4 S Q) : Ct l z yX6_costWith cX6_costWith 6 (some .int) 1 21 0 0 [.ref (a0), .ref (a1), .int (x2), .int (x3), .int (x4)] S (pI S Q) := by
  refine Ct_of (by decide) (Nat.le_of_ble_eq_true rfl) ?_
  intro p e s m args below meth c C
  have C : Cx p s m args meth c z cX6_costWith 6 RX6 (some .int) "costWith" := C
  refine G_sub (lv' := [(0, .ref (a0)), (1, .ref (a1)), (2, .int (x2)), (3, .int (x3)), (4, .int (x4))]) [0, 1, 2, 3, 4] rfl ?_
  refine G_iload (pc := 0) C 4 dX6_costWith_0 rfl ?_
  refine G_aload_n (pc := 2) C 1 dX6_costWith_2 rfl rfl ?_
  obtain ⟨hk, hw⟩ := hw
  refine gf_RX6_58 (pc := 3) C dX6_costWith_3 hk ?_
  obtain ⟨b1, hq, hw⟩ := hw
  rw [hq]
  obtain ⟨hk, hw⟩ := hw
  refine G_alenI (pc := 6) C hk dX6_costWith_6 ?_
  refine G_iload_n (pc := 7) C 2 dX6_costWith_7 rfl rfl ?_
  refine cl_RX6_63 (pc := 8) C (c_X11_stripesFor l z ((Int32.ofNat (ln S b1))) (x2) S _ hw) ⟨Nat.le_of_ble_eq_true rfl, Nat.le_of_ble_eq_true rfl⟩ dX6_costWith_8 (Nat.le_of_ble_eq_true rfl) (fun v S' hp => ?_)
  clear hw
  obtain ⟨hS, e2, rfl, hw⟩ := hp
  subst S'
  refine G_isub (pc := 11) C dX6_costWith_11 ?_
  refine G_topi (fun e4 he4 => ?_)
  have hw := hw e4 he4
  clear he4
  refine G_istore (pc := 12) C [(5, .int (e4)), (0, .ref (a0)), (1, .ref (a1)), (2, .int (x2)), (3, .int (x3)), (4, .int (x4))] dX6_costWith_12 (by decide) rfl ?_
  refine G_iload (pc := 14) C 0 dX6_costWith_14 rfl ?_
  refine G_if_ge (pc := 16) C 24 dX6_costWith_16 (by decide) (fun hc => ?_) (fun hc => ?_)
  · have hw := hw.1 hc
    refine G_ldc (pc := 24) C kw_RX6_36 dX6_costWith_24 ?_
    refine G_aload_n (pc := 26) C 2 dX6_costWith_26 rfl rfl ?_
    obtain ⟨hk, hw⟩ := hw
    refine gf_RX6_66 (pc := 27) C dX6_costWith_27 hk ?_
    refine G_iload_n (pc := 30) C 3 dX6_costWith_30 rfl rfl ?_
    refine G_imul (pc := 31) C dX6_costWith_31 ?_
    refine G_aload_n (pc := 32) C 1 dX6_costWith_32 rfl rfl ?_
    obtain ⟨hk, hw⟩ := hw
    refine gf_RX6_11 (pc := 33) C dX6_costWith_33 hk ?_
    refine G_iload_n (pc := 36) C 4 dX6_costWith_36 rfl rfl ?_
    refine G_iconst (pc := 37) C (v := 1) dX6_costWith_37 (by decide) ?_
    refine G_iadd (pc := 38) C dX6_costWith_38 ?_
    obtain ⟨b5, hq, hw⟩ := hw
    rw [hq]
    obtain ⟨hk, hi, hw⟩ := hw
    refine G_aald (pc := 39) C 5 rfl (by decide) rfl hk hi dX6_costWith_39 ?_
    refine G_iload (pc := 40) C 0 dX6_costWith_40 rfl ?_
    obtain ⟨b6, hq, hw⟩ := hw
    rw [hq]
    obtain ⟨hk, hi, hw⟩ := hw
    refine G_iald (pc := 42) C hk hi dX6_costWith_42 ?_
    refine G_iadd (pc := 43) C dX6_costWith_43 ?_
    refine cl_RX6_52 (pc := 44) C (c_J9_min_7cf53 l z ((1000000 : Int32)) ((((gI S 83 a1 0) * x2) + (gI S 0 b6 (e4).toNatClampNeg))) S _ hw) ⟨Nat.le_of_ble_eq_true rfl, Nat.le_of_ble_eq_true rfl⟩ dX6_costWith_44 (Nat.le_of_ble_eq_true rfl) (fun v S' hp => ?_)
    clear hw
    obtain ⟨hS, e7, rfl, hw⟩ := hp
    subst S'
    exact G_sub [] rfl (g_X6_costWith_47 C  hw)
  · have hw := hw.2 hc
    refine G_ldc (pc := 19) C kw_RX6_36 dX6_costWith_19 ?_
    refine G_goto (pc := 21) C 47 dX6_costWith_21 (by decide) ?_
    exact G_sub [] rfl (g_X6_costWith_47 C  hw)
/-! FirstParts$Planner.leastFrom(LFirstParts$Line;II)I -/
abbrev wb_X6_leastFrom_7  (K7 : Int32 → Int32 → Prop) (Q : Int32 → Prop) (v0 : Nat) (v1 : Nat) (v2 : Int32) (v3 : Int32) (v4 : Int32) (v5 : Int32) (S : Hp) : Prop :=
  kd S v1 = 3 ∧ (((gI S 35 v1 0) < v5 → Q v4) ∧ (¬ (gI S 35 v1 0) < v5 → kd S v1 = 3 ∧ ∃ b1, (gR S 33 v1 0) = some b1 ∧ kd S b1 = 23 ∧ vp_in v2 (ln S b1) ∧ ∃ b2, (gR S 0 b1 (v2).toNatClampNeg) = some b2 ∧ kd S v0 = 7 ∧ wp_X6_costWith (v0) (b2) (v5) (v2) (v3) S (fun e3 => wp_J9_min_7cf53 (v4) (e3) S (fun e5 => ∀ e7 : Int32, e7 = (v5 + 1) → K7 (e5) (e7)))))
abbrev wp_X6_leastFrom_7  (Q : Int32 → Prop) (v0 : Nat) (v1 : Nat) (v2 : Int32) (v3 : Int32) (v4 : Int32) (v5 : Int32) (S : Hp) : Prop :=
  Lp (X := Int32 × Int32) (fun K y => wb_X6_leastFrom_7  (fun w0 w1 => K (w0, w1)) Q v0 v1 v2 v3 y.1 y.2 S) (v4, v5)
abbrev wp_X6_leastFrom (a0 : Nat) (a1 : Nat) (x2 : Int32) (x3 : Int32) (S : Hp) (Q : Int32 → Prop) : Prop :=
  wp_X6_leastFrom_7 Q (a0) (a1) (x2) (x3) ((1000000 : Int32)) ((1 : Int32)) (S)
set_option maxHeartbeats 4000000 in
set_option maxRecDepth 100000 in
theorem gb_X6_leastFrom_7 (C : Cx p s m args meth c z cX6_leastFrom 6 RX6 (some .int) "leastFrom") {K7 : Int32 → Int32 → Prop} {Q : Int32 → Prop} {v0 : Nat} {v1 : Nat} {v2 : Int32} {v3 : Int32} {v4 : Int32} {v5 : Int32} {S : Hp}  (hK7 : ∀ (w4 : Int32) (w5 : Int32), K7 w4 w5 → Go p l e { frames := 2, cells := 0, slots := 0, locals := 46 } s m args below meth c z 6 (MQ below (Qx z (pI S Q)) args s 0 0 (own z)) (0) (0) 7 [(0, .ref (v0)), (1, .ref (v1)), (2, .int (v2)), (3, .int (v3)), (4, .int (w4)), (5, .int (w5))] [] (S)) (hw : wb_X6_leastFrom_7  K7 Q v0 v1 v2 v3 v4 v5 S) : Go p l e { frames := 2, cells := 0, slots := 0, locals := 46 } s m args below meth c z 6 (MQ below (Qx z (pI S Q)) args s 0 0 (own z)) (0) (0) 7 [(0, .ref (v0)), (1, .ref (v1)), (2, .int (v2)), (3, .int (v3)), (4, .int (v4)), (5, .int (v5))] [] (S) := by
  refine G_iload (pc := 7) C 5 dX6_leastFrom_7 rfl ?_
  refine G_aload_n (pc := 9) C 1 dX6_leastFrom_9 rfl rfl ?_
  obtain ⟨hk, hw⟩ := hw
  refine gf_RX6_41 (pc := 10) C dX6_leastFrom_10 hk ?_
  refine G_icmp_gt (pc := 13) C 43 dX6_leastFrom_13 (by decide) (fun hc => ?_) (fun hc => ?_)
  · have hw := hw.1 hc
    refine G_iload (pc := 43) C 4 dX6_leastFrom_43 rfl ?_
    exact G_iret (pc := 45) C rfl dX6_leastFrom_45 ⟨rfl, _, rfl, hw⟩
  · have hw := hw.2 hc
    refine G_iload (pc := 16) C 4 dX6_leastFrom_16 rfl ?_
    refine G_aload_n (pc := 18) C 0 dX6_leastFrom_18 rfl rfl ?_
    refine G_aload_n (pc := 19) C 1 dX6_leastFrom_19 rfl rfl ?_
    obtain ⟨hk, hw⟩ := hw
    refine gf_RX6_44 (pc := 20) C dX6_leastFrom_20 hk ?_
    refine G_iload_n (pc := 23) C 2 dX6_leastFrom_23 rfl rfl ?_
    obtain ⟨b1, hq, hw⟩ := hw
    rw [hq]
    obtain ⟨hk, hi, hw⟩ := hw
    refine G_aald (pc := 24) C 3 rfl (by decide) rfl hk hi dX6_leastFrom_24 ?_
    refine G_iload (pc := 25) C 5 dX6_leastFrom_25 rfl ?_
    refine G_iload_n (pc := 27) C 2 dX6_leastFrom_27 rfl rfl ?_
    refine G_iload_n (pc := 28) C 3 dX6_leastFrom_28 rfl rfl ?_
    obtain ⟨b2, hq, hw⟩ := hw
    rw [hq]
    obtain ⟨hk, hw⟩ := hw
    refine cl_RX6_48 (pc := 29) C (c_X6_costWith l z (v0) (b2) (v5) (v2) (v3) S _ hw) ⟨Nat.le_of_ble_eq_true rfl, Nat.le_of_ble_eq_true rfl⟩ hk dX6_leastFrom_29 (Nat.le_of_ble_eq_true rfl) (fun v S' hp => ?_)
    clear hw
    obtain ⟨hS, e3, rfl, hw⟩ := hp
    subst S'
    refine cl_RX6_52 (pc := 32) C (c_J9_min_7cf53 l z (v4) (e3) S _ hw) ⟨Nat.le_of_ble_eq_true rfl, Nat.le_of_ble_eq_true rfl⟩ dX6_leastFrom_32 (Nat.le_of_ble_eq_true rfl) (fun v S' hp => ?_)
    clear hw
    obtain ⟨hS, e5, rfl, hw⟩ := hp
    subst S'
    refine G_istore (pc := 35) C [(4, .int (e5)), (0, .ref (v0)), (1, .ref (v1)), (2, .int (v2)), (3, .int (v3)), (5, .int (v5))] dX6_leastFrom_35 (by decide) rfl ?_
    obtain ⟨e7, he7⟩ : ∃ y : Int32, y = (v5 + 1) := ⟨_, rfl⟩
    have hw := hw e7 he7
    refine G_iinc (pc := 37) C [(5, .int (e7)), (4, .int (e5)), (0, .ref (v0)), (1, .ref (v1)), (2, .int (v2)), (3, .int (v3))] 5 (v := e7) dX6_leastFrom_37 rfl (by rw [he7]; rfl) (by decide) rfl ?_
    clear he7
    refine G_goto (pc := 40) C 7 dX6_leastFrom_40 (by decide) ?_
    exact G_sub [2, 3, 4, 5, 1, 0] rfl (hK7 _ _ hw)
set_option maxHeartbeats 4000000 in
set_option maxRecDepth 100000 in
theorem g_X6_leastFrom_7 (C : Cx p s m args meth c z cX6_leastFrom 6 RX6 (some .int) "leastFrom")  {Q : Int32 → Prop} {v0 : Nat} {v1 : Nat} {v2 : Int32} {v3 : Int32} {v4 : Int32} {v5 : Int32} {S : Hp}   (hw : wp_X6_leastFrom_7  Q v0 v1 v2 v3 v4 v5 S) : Go p l e { frames := 2, cells := 0, slots := 0, locals := 46 } s m args below meth c z 6 (MQ below (Qx z (pI S Q)) args s 0 0 (own z)) (0) (0) 7 [(0, .ref (v0)), (1, .ref (v1)), (2, .int (v2)), (3, .int (v3)), (4, .int (v4)), (5, .int (v5))] [] (S) :=
  Lp_go (G := fun y : Int32 × Int32 => Go p l e { frames := 2, cells := 0, slots := 0, locals := 46 } s m args below meth c z 6 (MQ below (Qx z (pI S Q)) args s 0 0 (own z)) (0) (0) 7 [(0, .ref (v0)), (1, .ref (v1)), (2, .int (v2)), (3, .int (v3)), (4, .int (y.1)), (5, .int (y.2))] [] (S)) (fun K y hK hB => gb_X6_leastFrom_7 C  (fun w0 w1 h => hK (w0, w1) h) hB) hw
set_option maxHeartbeats 4000000 in
set_option maxRecDepth 100000 in
theorem c_X6_leastFrom (l : Launch) (z : Zt) (a0 : Nat) (a1 : Nat) (x2 : Int32) (x3 : Int32) (S : Hp) (Q : Int32 → Prop) (hw : wp_X6_leastFrom a0 a1 x2 x3 S Q) : Ct l z yX6_leastFrom cX6_leastFrom 6 (some .int) 2 46 0 0 [.ref (a0), .ref (a1), .int (x2), .int (x3)] S (pI S Q) := by
  refine Ct_of (by decide) (Nat.le_of_ble_eq_true rfl) ?_
  intro p e s m args below meth c C
  have C : Cx p s m args meth c z cX6_leastFrom 6 RX6 (some .int) "leastFrom" := C
  refine G_sub (lv' := [(0, .ref (a0)), (1, .ref (a1)), (2, .int (x2)), (3, .int (x3))]) [0, 1, 2, 3] rfl ?_
  refine G_ldc (pc := 0) C kw_RX6_36 dX6_leastFrom_0 ?_
  refine G_istore (pc := 2) C [(4, .int ((1000000 : Int32))), (0, .ref (a0)), (1, .ref (a1)), (2, .int (x2)), (3, .int (x3))] dX6_leastFrom_2 (by decide) rfl ?_
  refine G_iconst (pc := 4) C (v := 1) dX6_leastFrom_4 (by decide) ?_
  refine G_istore (pc := 5) C [(5, .int ((1 : Int32))), (4, .int ((1000000 : Int32))), (0, .ref (a0)), (1, .ref (a1)), (2, .int (x2)), (3, .int (x3))] dX6_leastFrom_5 (by decide) rfl ?_
  exact G_sub [2, 3, 4, 5, 1, 0] rfl (g_X6_leastFrom_7 C  hw)
/-! FirstParts$Planner.chooseNeeds(LFirstParts$Line;)V -/
abbrev wp_X6_chooseNeeds_58 (K7 : Int32 → Int32 → Hp → Prop) (Q : Hp → Prop) (v0 : Nat) (v1 : Nat) (v2 : Int32) (v3 : Int32) (v4 : Int32) (S : Hp) : Prop :=
  kd S v0 = 7 ∧ ∃ b2, (gR S 98 v0 0) = some b2 ∧ kd S b2 = 20 ∧ vp_in v3 (ln S b2) ∧ ∀ S3 : Hp, S3 = sI S 0 b2 (v3).toNatClampNeg v4 → kd S3 v1 = 3 ∧ ∃ b4, (gR S3 33 v1 0) = some b4 ∧ kd S3 b4 = 23 ∧ vp_in v3 (ln S3 b4) ∧ ∃ b5, (gR S3 0 b4 (v3).toNatClampNeg) = some b5 ∧ kd S3 b5 = 6 ∧ ∃ b6, (gR S3 81 b5 0) = some b6 ∧ kd S3 b6 = 20 ∧ wp_X11_stripesFor ((Int32.ofNat (ln S3 b6))) (v4) S3 (fun e7 => wp_J9_max_7cf53 ((0 : Int32)) ((v2 - e7)) S3 (fun e9 => ∀ e11 : Int32, e11 = (v3 + 1) → K7 (e9) (e11) (S3)))
abbrev wb_X6_chooseNeeds_18 (K7 : Int32 → Int32 → Hp → Prop) (K18 : Int32 → Hp → Prop) (Q : Hp → Prop) (v0 : Nat) (v1 : Nat) (v2 : Int32) (v3 : Int32) (v4 : Int32) (S : Hp) : Prop :=
  kd S v1 = 3 ∧ (((gI S 35 v1 0) ≤ v4 → wp_X6_chooseNeeds_58 K7 Q (v0) (v1) (v2) (v3) (v4) (S)) ∧ (¬ (gI S 35 v1 0) ≤ v4 → kd S v1 = 3 ∧ ∃ b12, (gR S 33 v1 0) = some b12 ∧ kd S b12 = 23 ∧ vp_in v3 (ln S b12) ∧ ∃ b13, (gR S 0 b12 (v3).toNatClampNeg) = some b13 ∧ kd S v0 = 7 ∧ wp_X6_costWith (v0) (b13) (v4) (v3) (v2) S (fun e14 => kd S v0 = 7 ∧ ∃ b16, (gR S 97 v0 0) = some b16 ∧ kd S b16 = 25 ∧ vp_in v3 (ln S b16) ∧ ∃ b17, (gR S 0 b16 (v3).toNatClampNeg) = some b17 ∧ kd S b17 = 20 ∧ vp_in v2 (ln S b17) ∧ ((e14 = (gI S 0 b17 (v2).toNatClampNeg) → wp_X6_chooseNeeds_58 K7 Q (v0) (v1) (v2) (v3) (v4) (S)) ∧ (¬ e14 = (gI S 0 b17 (v2).toNatClampNeg) → ∀ e18 : Int32, e18 = (v4 + 1) → K18 (e18) (S))))))
abbrev wp_X6_chooseNeeds_18 (K7 : Int32 → Int32 → Hp → Prop) (Q : Hp → Prop) (v0 : Nat) (v1 : Nat) (v2 : Int32) (v3 : Int32) (v4 : Int32) (S : Hp) : Prop :=
  Lp (X := Int32 × Hp) (fun K y => wb_X6_chooseNeeds_18 K7 (fun w0 w1 => K (w0, w1)) Q v0 v1 v2 v3 y.1 y.2) (v4, S)
abbrev wb_X6_chooseNeeds_7  (K7 : Int32 → Int32 → Hp → Prop) (Q : Hp → Prop) (v0 : Nat) (v1 : Nat) (v2 : Int32) (v3 : Int32) (S : Hp) : Prop :=
  kd S v1 = 3 ∧ (((gI S 34 v1 0) ≤ v3 → Q S) ∧ (¬ (gI S 34 v1 0) ≤ v3 → wp_X6_chooseNeeds_18 K7 Q (v0) (v1) (v2) (v3) ((1 : Int32)) (S)))
abbrev wp_X6_chooseNeeds_7  (Q : Hp → Prop) (v0 : Nat) (v1 : Nat) (v2 : Int32) (v3 : Int32) (S : Hp) : Prop :=
  Lp (X := Int32 × Int32 × Hp) (fun K y => wb_X6_chooseNeeds_7  (fun w0 w1 w2 => K (w0, w1, w2)) Q v0 v1 y.1 y.2.1 y.2.2) (v2, v3, S)
abbrev wp_X6_chooseNeeds (a0 : Nat) (a1 : Nat) (S : Hp) (Q : Hp → Prop) : Prop :=
  kd S a1 = 3 ∧ ∀ e1 : Int32, e1 = (gI S 36 a1 0) → wp_X6_chooseNeeds_7 Q (a0) (a1) (e1) ((0 : Int32)) (S)
set_option maxHeartbeats 4000000 in
set_option maxRecDepth 100000 in
theorem g_X6_chooseNeeds_58 (C : Cx p s m args meth c z cX6_chooseNeeds 5 RX6 none "chooseNeeds") {K7 : Int32 → Int32 → Hp → Prop} {Q : Hp → Prop} {v0 : Nat} {v1 : Nat} {v2 : Int32} {v3 : Int32} {v4 : Int32} {S : Hp}  (hK7 : ∀ (w2 : Int32) (w3 : Int32) (S2 : Hp), K7 w2 w3 S2 → Go p l e { frames := 2, cells := 0, slots := 0, locals := 46 } s m args below meth c z 5 (MQ below (Qx z (wV Q)) args s 0 0 (own z)) (0) (0) 7 [(0, .ref (v0)), (1, .ref (v1)), (2, .int (w2)), (3, .int (w3))] [] (S2)) (hw : wp_X6_chooseNeeds_58 K7 Q v0 v1 v2 v3 v4 S) : Go p l e { frames := 2, cells := 0, slots := 0, locals := 46 } s m args below meth c z 5 (MQ below (Qx z (wV Q)) args s 0 0 (own z)) (0) (0) 58 [(0, .ref (v0)), (1, .ref (v1)), (2, .int (v2)), (3, .int (v3)), (4, .int (v4))] [] (S) := by
  refine G_aload_n (pc := 58) C 0 dX6_chooseNeeds_58 rfl rfl ?_
  obtain ⟨hk, hw⟩ := hw
  refine gf_RX6_16 (pc := 59) C dX6_chooseNeeds_59 hk ?_
  refine G_iload_n (pc := 62) C 3 dX6_chooseNeeds_62 rfl rfl ?_
  refine G_iload (pc := 63) C 4 dX6_chooseNeeds_63 rfl ?_
  obtain ⟨b2, hq, hw⟩ := hw
  rw [hq]
  obtain ⟨hk, hi, hw⟩ := hw
  refine G_iast (pc := 65) C hk hi dX6_chooseNeeds_65 ?_
  obtain ⟨S3, hS3⟩ : ∃ y : Hp, y = sI S 0 b2 (v3).toNatClampNeg v4 := ⟨_, rfl⟩
  have hw := hw S3 hS3
  rw [← hS3]
  clear hS3
  refine G_iconst (pc := 66) C (v := 0) dX6_chooseNeeds_66 (by decide) ?_
  refine G_iload_n (pc := 67) C 2 dX6_chooseNeeds_67 rfl rfl ?_
  refine G_aload_n (pc := 68) C 1 dX6_chooseNeeds_68 rfl rfl ?_
  obtain ⟨hk, hw⟩ := hw
  refine gf_RX6_44 (pc := 69) C dX6_chooseNeeds_69 hk ?_
  refine G_iload_n (pc := 72) C 3 dX6_chooseNeeds_72 rfl rfl ?_
  obtain ⟨b4, hq, hw⟩ := hw
  rw [hq]
  obtain ⟨hk, hi, hw⟩ := hw
  refine G_aald (pc := 73) C 3 rfl (by decide) rfl hk hi dX6_chooseNeeds_73 ?_
  obtain ⟨b5, hq, hw⟩ := hw
  rw [hq]
  obtain ⟨hk, hw⟩ := hw
  refine gf_RX6_58 (pc := 74) C dX6_chooseNeeds_74 hk ?_
  obtain ⟨b6, hq, hw⟩ := hw
  rw [hq]
  obtain ⟨hk, hw⟩ := hw
  refine G_alenI (pc := 77) C hk dX6_chooseNeeds_77 ?_
  refine G_iload (pc := 78) C 4 dX6_chooseNeeds_78 rfl ?_
  refine cl_RX6_63 (pc := 80) C (c_X11_stripesFor l z ((Int32.ofNat (ln S3 b6))) (v4) S3 _ hw) ⟨Nat.le_of_ble_eq_true rfl, Nat.le_of_ble_eq_true rfl⟩ dX6_chooseNeeds_80 (Nat.le_of_ble_eq_true rfl) (fun v S' hp => ?_)
  clear hw
  obtain ⟨hS, e7, rfl, hw⟩ := hp
  subst S'
  refine G_isub (pc := 83) C dX6_chooseNeeds_83 ?_
  refine cl_RX6_69 (pc := 84) C (c_J9_max_7cf53 l z ((0 : Int32)) ((v2 - e7)) S3 _ hw) ⟨Nat.le_of_ble_eq_true rfl, Nat.le_of_ble_eq_true rfl⟩ dX6_chooseNeeds_84 (Nat.le_of_ble_eq_true rfl) (fun v S' hp => ?_)
  clear hw
  obtain ⟨hS, e9, rfl, hw⟩ := hp
  subst S'
  refine G_istore_n (pc := 87) C [(2, .int (e9)), (0, .ref (v0)), (1, .ref (v1)), (3, .int (v3)), (4, .int (v4))] dX6_chooseNeeds_87 rfl (by decide) rfl ?_
  obtain ⟨e11, he11⟩ : ∃ y : Int32, y = (v3 + 1) := ⟨_, rfl⟩
  have hw := hw e11 he11
  refine G_iinc (pc := 88) C [(3, .int (e11)), (2, .int (e9)), (0, .ref (v0)), (1, .ref (v1)), (4, .int (v4))] 3 (v := e11) dX6_chooseNeeds_88 rfl (by rw [he11]; rfl) (by decide) rfl ?_
  clear he11
  refine G_goto (pc := 91) C 7 dX6_chooseNeeds_91 (by decide) ?_
  exact G_sub [2, 3, 1, 0] rfl (hK7 _ _ _ hw)
set_option maxHeartbeats 4000000 in
set_option maxRecDepth 100000 in
theorem gb_X6_chooseNeeds_18 (C : Cx p s m args meth c z cX6_chooseNeeds 5 RX6 none "chooseNeeds") {K7 : Int32 → Int32 → Hp → Prop} {K18 : Int32 → Hp → Prop} {Q : Hp → Prop} {v0 : Nat} {v1 : Nat} {v2 : Int32} {v3 : Int32} {v4 : Int32} {S : Hp}  (hK7 : ∀ (w2 : Int32) (w3 : Int32) (S2 : Hp), K7 w2 w3 S2 → Go p l e { frames := 2, cells := 0, slots := 0, locals := 46 } s m args below meth c z 5 (MQ below (Qx z (wV Q)) args s 0 0 (own z)) (0) (0) 7 [(0, .ref (v0)), (1, .ref (v1)), (2, .int (w2)), (3, .int (w3))] [] (S2)) (hK18 : ∀ (w4 : Int32) (S2 : Hp), K18 w4 S2 → Go p l e { frames := 2, cells := 0, slots := 0, locals := 46 } s m args below meth c z 5 (MQ below (Qx z (wV Q)) args s 0 0 (own z)) (0) (0) 18 [(0, .ref (v0)), (1, .ref (v1)), (2, .int (v2)), (3, .int (v3)), (4, .int (w4))] [] (S2)) (hw : wb_X6_chooseNeeds_18 K7 K18 Q v0 v1 v2 v3 v4 S) : Go p l e { frames := 2, cells := 0, slots := 0, locals := 46 } s m args below meth c z 5 (MQ below (Qx z (wV Q)) args s 0 0 (own z)) (0) (0) 18 [(0, .ref (v0)), (1, .ref (v1)), (2, .int (v2)), (3, .int (v3)), (4, .int (v4))] [] (S) := by
  refine G_iload (pc := 18) C 4 dX6_chooseNeeds_18 rfl ?_
  refine G_aload_n (pc := 20) C 1 dX6_chooseNeeds_20 rfl rfl ?_
  obtain ⟨hk, hw⟩ := hw
  refine gf_RX6_41 (pc := 21) C dX6_chooseNeeds_21 hk ?_
  refine G_icmp_ge (pc := 24) C 58 dX6_chooseNeeds_24 (by decide) (fun hc => ?_) (fun hc => ?_)
  · have hw := hw.1 hc
    exact G_sub [0, 1, 2, 3, 4] rfl (g_X6_chooseNeeds_58 C hK7 hw)
  · have hw := hw.2 hc
    refine G_aload_n (pc := 27) C 0 dX6_chooseNeeds_27 rfl rfl ?_
    refine G_aload_n (pc := 28) C 1 dX6_chooseNeeds_28 rfl rfl ?_
    obtain ⟨hk, hw⟩ := hw
    refine gf_RX6_44 (pc := 29) C dX6_chooseNeeds_29 hk ?_
    refine G_iload_n (pc := 32) C 3 dX6_chooseNeeds_32 rfl rfl ?_
    obtain ⟨b12, hq, hw⟩ := hw
    rw [hq]
    obtain ⟨hk, hi, hw⟩ := hw
    refine G_aald (pc := 33) C 3 rfl (by decide) rfl hk hi dX6_chooseNeeds_33 ?_
    refine G_iload (pc := 34) C 4 dX6_chooseNeeds_34 rfl ?_
    refine G_iload_n (pc := 36) C 3 dX6_chooseNeeds_36 rfl rfl ?_
    refine G_iload_n (pc := 37) C 2 dX6_chooseNeeds_37 rfl rfl ?_
    obtain ⟨b13, hq, hw⟩ := hw
    rw [hq]
    obtain ⟨hk, hw⟩ := hw
    refine cl_RX6_48 (pc := 38) C (c_X6_costWith l z (v0) (b13) (v4) (v3) (v2) S _ hw) ⟨Nat.le_of_ble_eq_true rfl, Nat.le_of_ble_eq_true rfl⟩ hk dX6_chooseNeeds_38 (Nat.le_of_ble_eq_true rfl) (fun v S' hp => ?_)
    clear hw
    obtain ⟨hS, e14, rfl, hw⟩ := hp
    subst S'
    refine G_aload_n (pc := 41) C 0 dX6_chooseNeeds_41 rfl rfl ?_
    obtain ⟨hk, hw⟩ := hw
    refine gf_RX6_11 (pc := 42) C dX6_chooseNeeds_42 hk ?_
    refine G_iload_n (pc := 45) C 3 dX6_chooseNeeds_45 rfl rfl ?_
    obtain ⟨b16, hq, hw⟩ := hw
    rw [hq]
    obtain ⟨hk, hi, hw⟩ := hw
    refine G_aald (pc := 46) C 5 rfl (by decide) rfl hk hi dX6_chooseNeeds_46 ?_
    refine G_iload_n (pc := 47) C 2 dX6_chooseNeeds_47 rfl rfl ?_
    obtain ⟨b17, hq, hw⟩ := hw
    rw [hq]
    obtain ⟨hk, hi, hw⟩ := hw
    refine G_iald (pc := 48) C hk hi dX6_chooseNeeds_48 ?_
    refine G_icmp_eq (pc := 49) C 58 dX6_chooseNeeds_49 (by decide) (fun hc => ?_) (fun hc => ?_)
    · have hw := hw.1 hc
      exact G_sub [0, 1, 2, 3, 4] rfl (g_X6_chooseNeeds_58 C hK7 hw)
    · have hw := hw.2 hc
      obtain ⟨e18, he18⟩ : ∃ y : Int32, y = (v4 + 1) := ⟨_, rfl⟩
      have hw := hw e18 he18
      refine G_iinc (pc := 52) C [(4, .int (e18)), (0, .ref (v0)), (1, .ref (v1)), (2, .int (v2)), (3, .int (v3))] 4 (v := e18) dX6_chooseNeeds_52 rfl (by rw [he18]; rfl) (by decide) rfl ?_
      clear he18
      refine G_goto (pc := 55) C 18 dX6_chooseNeeds_55 (by decide) ?_
      exact G_sub [1, 2, 3, 4, 0] rfl (hK18 _ _ hw)
set_option maxHeartbeats 4000000 in
set_option maxRecDepth 100000 in
theorem g_X6_chooseNeeds_18 (C : Cx p s m args meth c z cX6_chooseNeeds 5 RX6 none "chooseNeeds") {K7 : Int32 → Int32 → Hp → Prop} {Q : Hp → Prop} {v0 : Nat} {v1 : Nat} {v2 : Int32} {v3 : Int32} {v4 : Int32} {S : Hp}  (hK7 : ∀ (w2 : Int32) (w3 : Int32) (S2 : Hp), K7 w2 w3 S2 → Go p l e { frames := 2, cells := 0, slots := 0, locals := 46 } s m args below meth c z 5 (MQ below (Qx z (wV Q)) args s 0 0 (own z)) (0) (0) 7 [(0, .ref (v0)), (1, .ref (v1)), (2, .int (w2)), (3, .int (w3))] [] (S2)) (hw : wp_X6_chooseNeeds_18 K7 Q v0 v1 v2 v3 v4 S) : Go p l e { frames := 2, cells := 0, slots := 0, locals := 46 } s m args below meth c z 5 (MQ below (Qx z (wV Q)) args s 0 0 (own z)) (0) (0) 18 [(0, .ref (v0)), (1, .ref (v1)), (2, .int (v2)), (3, .int (v3)), (4, .int (v4))] [] (S) :=
  Lp_go (G := fun y : Int32 × Hp => Go p l e { frames := 2, cells := 0, slots := 0, locals := 46 } s m args below meth c z 5 (MQ below (Qx z (wV Q)) args s 0 0 (own z)) (0) (0) 18 [(0, .ref (v0)), (1, .ref (v1)), (2, .int (v2)), (3, .int (v3)), (4, .int (y.1))] [] (y.2)) (fun K y hK hB => gb_X6_chooseNeeds_18 C hK7 (fun w0 w1 h => hK (w0, w1) h) hB) hw
set_option maxHeartbeats 4000000 in
set_option maxRecDepth 100000 in
theorem gb_X6_chooseNeeds_7 (C : Cx p s m args meth c z cX6_chooseNeeds 5 RX6 none "chooseNeeds") {K7 : Int32 → Int32 → Hp → Prop} {Q : Hp → Prop} {v0 : Nat} {v1 : Nat} {v2 : Int32} {v3 : Int32} {S : Hp}  (hK7 : ∀ (w2 : Int32) (w3 : Int32) (S2 : Hp), K7 w2 w3 S2 → Go p l e { frames := 2, cells := 0, slots := 0, locals := 46 } s m args below meth c z 5 (MQ below (Qx z (wV Q)) args s 0 0 (own z)) (0) (0) 7 [(0, .ref (v0)), (1, .ref (v1)), (2, .int (w2)), (3, .int (w3))] [] (S2)) (hw : wb_X6_chooseNeeds_7  K7 Q v0 v1 v2 v3 S) : Go p l e { frames := 2, cells := 0, slots := 0, locals := 46 } s m args below meth c z 5 (MQ below (Qx z (wV Q)) args s 0 0 (own z)) (0) (0) 7 [(0, .ref (v0)), (1, .ref (v1)), (2, .int (v2)), (3, .int (v3))] [] (S) := by
  refine G_iload_n (pc := 7) C 3 dX6_chooseNeeds_7 rfl rfl ?_
  refine G_aload_n (pc := 8) C 1 dX6_chooseNeeds_8 rfl rfl ?_
  obtain ⟨hk, hw⟩ := hw
  refine gf_RX6_20 (pc := 9) C dX6_chooseNeeds_9 hk ?_
  refine G_icmp_ge (pc := 12) C 94 dX6_chooseNeeds_12 (by decide) (fun hc => ?_) (fun hc => ?_)
  · have hw := hw.1 hc
    exact G_vret (pc := 94) C rfl dX6_chooseNeeds_94 ⟨rfl, hw⟩
  · have hw := hw.2 hc
    refine G_iconst (pc := 15) C (v := 1) dX6_chooseNeeds_15 (by decide) ?_
    refine G_istore (pc := 16) C [(4, .int ((1 : Int32))), (0, .ref (v0)), (1, .ref (v1)), (2, .int (v2)), (3, .int (v3))] dX6_chooseNeeds_16 (by decide) rfl ?_
    exact G_sub [1, 2, 3, 4, 0] rfl (g_X6_chooseNeeds_18 C hK7 hw)
set_option maxHeartbeats 4000000 in
set_option maxRecDepth 100000 in
theorem g_X6_chooseNeeds_7 (C : Cx p s m args meth c z cX6_chooseNeeds 5 RX6 none "chooseNeeds")  {Q : Hp → Prop} {v0 : Nat} {v1 : Nat} {v2 : Int32} {v3 : Int32} {S : Hp}   (hw : wp_X6_chooseNeeds_7  Q v0 v1 v2 v3 S) : Go p l e { frames := 2, cells := 0, slots := 0, locals := 46 } s m args below meth c z 5 (MQ below (Qx z (wV Q)) args s 0 0 (own z)) (0) (0) 7 [(0, .ref (v0)), (1, .ref (v1)), (2, .int (v2)), (3, .int (v3))] [] (S) :=
  Lp_go (G := fun y : Int32 × Int32 × Hp => Go p l e { frames := 2, cells := 0, slots := 0, locals := 46 } s m args below meth c z 5 (MQ below (Qx z (wV Q)) args s 0 0 (own z)) (0) (0) 7 [(0, .ref (v0)), (1, .ref (v1)), (2, .int (y.1)), (3, .int (y.2.1))] [] (y.2.2)) (fun K y hK hB => gb_X6_chooseNeeds_7 C  (fun w0 w1 w2 h => hK (w0, w1, w2) h) hB) hw
set_option maxHeartbeats 4000000 in
set_option maxRecDepth 100000 in
theorem c_X6_chooseNeeds (l : Launch) (z : Zt) (a0 : Nat) (a1 : Nat) (S : Hp) (Q : Hp → Prop) (hw : wp_X6_chooseNeeds a0 a1 S Q) : Ct l z yX6_chooseNeeds cX6_chooseNeeds 5 none 2 46 0 0 [.ref (a0), .ref (a1)] S (wV Q) := by
  refine Ct_of (by decide) (Nat.le_of_ble_eq_true rfl) ?_
  intro p e s m args below meth c C
  have C : Cx p s m args meth c z cX6_chooseNeeds 5 RX6 none "chooseNeeds" := C
  refine G_sub (lv' := [(0, .ref (a0)), (1, .ref (a1))]) [0, 1] rfl ?_
  refine G_aload_n (pc := 0) C 1 dX6_chooseNeeds_0 rfl rfl ?_
  obtain ⟨hk, hw⟩ := hw
  refine gf_RX6_26 (pc := 1) C dX6_chooseNeeds_1 hk ?_
  refine G_topi (fun e1 he1 => ?_)
  have hw := hw e1 he1
  clear he1
  refine G_istore_n (pc := 4) C [(2, .int (e1)), (0, .ref (a0)), (1, .ref (a1))] dX6_chooseNeeds_4 rfl (by decide) rfl ?_
  refine G_iconst (pc := 5) C (v := 0) dX6_chooseNeeds_5 (by decide) ?_
  refine G_istore_n (pc := 6) C [(3, .int ((0 : Int32))), (2, .int (e1)), (0, .ref (a0)), (1, .ref (a1))] dX6_chooseNeeds_6 rfl (by decide) rfl ?_
  exact G_sub [2, 3, 1, 0] rfl (g_X6_chooseNeeds_7 C  hw)
/-! FirstParts$Planner.makePlan(LFirstParts$Line;)Z -/
abbrev wb_X6_makePlan_39 (K32 : Int32 → Hp → Prop) (K39 : Int32 → Hp → Prop) (Q : Int32 → Hp → Prop) (v0 : Nat) (v1 : Nat) (v3 : Int32) (v4 : Int32) (S : Hp) : Prop :=
  kd S v1 = 3 ∧ (((gI S 36 v1 0) < v4 → ∀ e8 : Int32, e8 = (v3 + (-1)) → K32 (e8) (S)) ∧ (¬ (gI S 36 v1 0) < v4 → kd S v0 = 7 ∧ ∃ b9, (gR S 97 v0 0) = some b9 ∧ kd S b9 = 25 ∧ vp_in v3 (ln S b9) ∧ kd S v0 = 7 ∧ ∃ b12, (gR S 0 b9 (v3).toNatClampNeg) = some b12 ∧ wp_X6_leastFrom (v0) (v1) (v3) (v4) S (fun e10 => kd S b12 = 20 ∧ vp_in v4 (ln S b12) ∧ ∀ S13 : Hp, S13 = sI S 0 b12 (v4).toNatClampNeg e10 → ∀ e14 : Int32, e14 = (v4 + 1) → K39 (e14) (S13))))
abbrev wp_X6_makePlan_39 (K32 : Int32 → Hp → Prop) (Q : Int32 → Hp → Prop) (v0 : Nat) (v1 : Nat) (v3 : Int32) (v4 : Int32) (S : Hp) : Prop :=
  Lp (X := Int32 × Hp) (fun K y => wb_X6_makePlan_39 K32 (fun w0 w1 => K (w0, w1)) Q v0 v1 v3 y.1 y.2) (v4, S)
abbrev wb_X6_makePlan_32  (K32 : Int32 → Hp → Prop) (Q : Int32 → Hp → Prop) (v0 : Nat) (v1 : Nat) (v3 : Int32) (S : Hp) : Prop :=
  ((v3 < 0 → kd S v0 = 7 ∧ ∃ b3, (gR S 97 v0 0) = some b3 ∧ kd S b3 = 25 ∧ vp_in (0 : Int32) (ln S b3) ∧ kd S v1 = 3 ∧ ∃ b4, (gR S 0 b3 ((0 : Int32)).toNatClampNeg) = some b4 ∧ kd S b4 = 20 ∧ vp_in (gI S 36 v1 0) (ln S b4) ∧ kd S v0 = 7 ∧ ∀ S5 : Hp, S5 = sI S 99 v0 0 (gI S 0 b4 ((gI S 36 v1 0)).toNatClampNeg) → kd S5 v0 = 7 ∧ (((gI S5 99 v0 0) < (1000000 : Int32) → kd S5 v0 = 7 ∧ wp_X6_chooseNeeds (v0) (v1) S5 (fun S7 => Q (1 : Int32) S7)) ∧ (¬ (gI S5 99 v0 0) < (1000000 : Int32) → Q (0 : Int32) S5))) ∧ (¬ v3 < 0 → wp_X6_makePlan_39 K32 Q (v0) (v1) (v3) ((0 : Int32)) (S)))
abbrev wp_X6_makePlan_32  (Q : Int32 → Hp → Prop) (v0 : Nat) (v1 : Nat) (v3 : Int32) (S : Hp) : Prop :=
  Lp (X := Int32 × Hp) (fun K y => wb_X6_makePlan_32  (fun w0 w1 => K (w0, w1)) Q v0 v1 y.1 y.2) (v3, S)
abbrev wb_X6_makePlan_7  (K7 : Int32 → Hp → Prop) (Q : Int32 → Hp → Prop) (v0 : Nat) (v1 : Nat) (v2 : Int32) (v3 : Int32) (S : Hp) : Prop :=
  (((40 : Int32) < v3 → ∀ e2 : Int32, e2 = (v2 - (1 : Int32)) → wp_X6_makePlan_32 Q (v0) (v1) (e2) (S)) ∧ (¬ (40 : Int32) < v3 → kd S v0 = 7 ∧ ∃ b15, (gR S 97 v0 0) = some b15 ∧ kd S b15 = 25 ∧ vp_in v2 (ln S b15) ∧ ∃ b16, (gR S 0 b15 (v2).toNatClampNeg) = some b16 ∧ kd S b16 = 20 ∧ vp_in v3 (ln S b16) ∧ ∀ S17 : Hp, S17 = sI S 0 b16 (v3).toNatClampNeg (0 : Int32) → ∀ e18 : Int32, e18 = (v3 + 1) → K7 (e18) (S17)))
abbrev wp_X6_makePlan_7  (Q : Int32 → Hp → Prop) (v0 : Nat) (v1 : Nat) (v2 : Int32) (v3 : Int32) (S : Hp) : Prop :=
  Lp (X := Int32 × Hp) (fun K y => wb_X6_makePlan_7  (fun w0 w1 => K (w0, w1)) Q v0 v1 v2 y.1 y.2) (v3, S)
abbrev wp_X6_makePlan (a0 : Nat) (a1 : Nat) (S : Hp) (Q : Int32 → Hp → Prop) : Prop :=
  kd S a1 = 3 ∧ ∀ e1 : Int32, e1 = (gI S 34 a1 0) → wp_X6_makePlan_7 Q (a0) (a1) (e1) ((0 : Int32)) (S)
set_option maxHeartbeats 4000000 in
set_option maxRecDepth 100000 in
theorem gb_X6_makePlan_39 (C : Cx p s m args meth c z cX6_makePlan 5 RX6 (some .boolean) "makePlan") {K32 : Int32 → Hp → Prop} {K39 : Int32 → Hp → Prop} {Q : Int32 → Hp → Prop} {v0 : Nat} {v1 : Nat} {v3 : Int32} {v4 : Int32} {S : Hp}  (hK32 : ∀ (w3 : Int32) (S2 : Hp), K32 w3 S2 → Go p l e { frames := 3, cells := 0, slots := 0, locals := 71 } s m args below meth c z 5 (MQ below (Qx z (wI Q)) args s 0 0 (own z)) (0) (0) 32 [(0, .ref (v0)), (1, .ref (v1)), (3, .int (w3))] [] (S2)) (hK39 : ∀ (w4 : Int32) (S2 : Hp), K39 w4 S2 → Go p l e { frames := 3, cells := 0, slots := 0, locals := 71 } s m args below meth c z 5 (MQ below (Qx z (wI Q)) args s 0 0 (own z)) (0) (0) 39 [(0, .ref (v0)), (1, .ref (v1)), (3, .int (v3)), (4, .int (w4))] [] (S2)) (hw : wb_X6_makePlan_39 K32 K39 Q v0 v1 v3 v4 S) : Go p l e { frames := 3, cells := 0, slots := 0, locals := 71 } s m args below meth c z 5 (MQ below (Qx z (wI Q)) args s 0 0 (own z)) (0) (0) 39 [(0, .ref (v0)), (1, .ref (v1)), (3, .int (v3)), (4, .int (v4))] [] (S) := by
  refine G_iload (pc := 39) C 3 dX6_makePlan_39 rfl ?_
  refine G_aload_n (pc := 41) C 1 dX6_makePlan_41 rfl rfl ?_
  obtain ⟨hk, hw⟩ := hw
  refine gf_RX6_26 (pc := 42) C dX6_makePlan_42 hk ?_
  refine G_icmp_gt (pc := 45) C 71 dX6_makePlan_45 (by decide) (fun hc => ?_) (fun hc => ?_)
  · have hw := hw.1 hc
    obtain ⟨e8, he8⟩ : ∃ y : Int32, y = (v3 + (-1)) := ⟨_, rfl⟩
    have hw := hw e8 he8
    refine G_iinc (pc := 71) C [(3, .int (e8)), (0, .ref (v0)), (1, .ref (v1)), (4, .int (v4))] 2 (v := e8) dX6_makePlan_71 rfl (by rw [he8]; rfl) (by decide) rfl ?_
    clear he8
    refine G_goto (pc := 74) C 32 dX6_makePlan_74 (by decide) ?_
    exact G_sub [1, 2, 0] rfl (hK32 _ _ hw)
  · have hw := hw.2 hc
    refine G_aload_n (pc := 48) C 0 dX6_makePlan_48 rfl rfl ?_
    obtain ⟨hk, hw⟩ := hw
    refine gf_RX6_11 (pc := 49) C dX6_makePlan_49 hk ?_
    refine G_iload_n (pc := 52) C 2 dX6_makePlan_52 rfl rfl ?_
    obtain ⟨b9, hq, hw⟩ := hw
    rw [hq]
    obtain ⟨hk, hi, hw⟩ := hw
    refine G_aald (pc := 53) C 5 rfl (by decide) rfl hk hi dX6_makePlan_53 ?_
    refine G_iload (pc := 54) C 3 dX6_makePlan_54 rfl ?_
    refine G_aload_n (pc := 56) C 0 dX6_makePlan_56 rfl rfl ?_
    refine G_aload_n (pc := 57) C 1 dX6_makePlan_57 rfl rfl ?_
    refine G_iload_n (pc := 58) C 2 dX6_makePlan_58 rfl rfl ?_
    refine G_iload (pc := 59) C 3 dX6_makePlan_59 rfl ?_
    obtain ⟨hk, hw⟩ := hw
    obtain ⟨b12, hq, hw⟩ := hw
    rw [hq]
    refine cl_RX6_29 (pc := 61) C (c_X6_leastFrom l z (v0) (v1) (v3) (v4) S _ hw) ⟨Nat.le_of_ble_eq_true rfl, Nat.le_of_ble_eq_true rfl⟩ hk dX6_makePlan_61 (Nat.le_of_ble_eq_true rfl) (fun v S' hp => ?_)
    clear hw
    obtain ⟨hS, e10, rfl, hw⟩ := hp
    subst S'
    obtain ⟨hk, hi, hw⟩ := hw
    refine G_iast (pc := 64) C hk hi dX6_makePlan_64 ?_
    obtain ⟨S13, hS13⟩ : ∃ y : Hp, y = sI S 0 b12 (v4).toNatClampNeg e10 := ⟨_, rfl⟩
    have hw := hw S13 hS13
    rw [← hS13]
    clear hS13
    obtain ⟨e14, he14⟩ : ∃ y : Int32, y = (v4 + 1) := ⟨_, rfl⟩
    have hw := hw e14 he14
    refine G_iinc (pc := 65) C [(4, .int (e14)), (0, .ref (v0)), (1, .ref (v1)), (3, .int (v3))] 3 (v := e14) dX6_makePlan_65 rfl (by rw [he14]; rfl) (by decide) rfl ?_
    clear he14
    refine G_goto (pc := 68) C 39 dX6_makePlan_68 (by decide) ?_
    exact G_sub [1, 2, 3, 0] rfl (hK39 _ _ hw)
set_option maxHeartbeats 4000000 in
set_option maxRecDepth 100000 in
theorem g_X6_makePlan_39 (C : Cx p s m args meth c z cX6_makePlan 5 RX6 (some .boolean) "makePlan") {K32 : Int32 → Hp → Prop} {Q : Int32 → Hp → Prop} {v0 : Nat} {v1 : Nat} {v3 : Int32} {v4 : Int32} {S : Hp}  (hK32 : ∀ (w3 : Int32) (S2 : Hp), K32 w3 S2 → Go p l e { frames := 3, cells := 0, slots := 0, locals := 71 } s m args below meth c z 5 (MQ below (Qx z (wI Q)) args s 0 0 (own z)) (0) (0) 32 [(0, .ref (v0)), (1, .ref (v1)), (3, .int (w3))] [] (S2)) (hw : wp_X6_makePlan_39 K32 Q v0 v1 v3 v4 S) : Go p l e { frames := 3, cells := 0, slots := 0, locals := 71 } s m args below meth c z 5 (MQ below (Qx z (wI Q)) args s 0 0 (own z)) (0) (0) 39 [(0, .ref (v0)), (1, .ref (v1)), (3, .int (v3)), (4, .int (v4))] [] (S) :=
  Lp_go (G := fun y : Int32 × Hp => Go p l e { frames := 3, cells := 0, slots := 0, locals := 71 } s m args below meth c z 5 (MQ below (Qx z (wI Q)) args s 0 0 (own z)) (0) (0) 39 [(0, .ref (v0)), (1, .ref (v1)), (3, .int (v3)), (4, .int (y.1))] [] (y.2)) (fun K y hK hB => gb_X6_makePlan_39 C hK32 (fun w0 w1 h => hK (w0, w1) h) hB) hw
set_option maxHeartbeats 4000000 in
set_option maxRecDepth 100000 in
theorem gb_X6_makePlan_32 (C : Cx p s m args meth c z cX6_makePlan 5 RX6 (some .boolean) "makePlan") {K32 : Int32 → Hp → Prop} {Q : Int32 → Hp → Prop} {v0 : Nat} {v1 : Nat} {v3 : Int32} {S : Hp}  (hK32 : ∀ (w3 : Int32) (S2 : Hp), K32 w3 S2 → Go p l e { frames := 3, cells := 0, slots := 0, locals := 71 } s m args below meth c z 5 (MQ below (Qx z (wI Q)) args s 0 0 (own z)) (0) (0) 32 [(0, .ref (v0)), (1, .ref (v1)), (3, .int (w3))] [] (S2)) (hw : wb_X6_makePlan_32  K32 Q v0 v1 v3 S) : Go p l e { frames := 3, cells := 0, slots := 0, locals := 71 } s m args below meth c z 5 (MQ below (Qx z (wI Q)) args s 0 0 (own z)) (0) (0) 32 [(0, .ref (v0)), (1, .ref (v1)), (3, .int (v3))] [] (S) := by
  refine G_iload_n (pc := 32) C 2 dX6_makePlan_32 rfl rfl ?_
  refine G_if_lt (pc := 33) C 77 dX6_makePlan_33 (by decide) (fun hc => ?_) (fun hc => ?_)
  · have hw := hw.1 hc
    refine G_aload_n (pc := 77) C 0 dX6_makePlan_77 rfl rfl ?_
    refine G_aload_n (pc := 78) C 0 dX6_makePlan_78 rfl rfl ?_
    obtain ⟨hk, hw⟩ := hw
    refine gf_RX6_11 (pc := 79) C dX6_makePlan_79 hk ?_
    refine G_iconst (pc := 82) C (v := 0) dX6_makePlan_82 (by decide) ?_
    obtain ⟨b3, hq, hw⟩ := hw
    rw [hq]
    obtain ⟨hk, hi, hw⟩ := hw
    refine G_aald (pc := 83) C 5 rfl (by decide) rfl hk hi dX6_makePlan_83 ?_
    refine G_aload_n (pc := 84) C 1 dX6_makePlan_84 rfl rfl ?_
    obtain ⟨hk, hw⟩ := hw
    refine gf_RX6_26 (pc := 85) C dX6_makePlan_85 hk ?_
    obtain ⟨b4, hq, hw⟩ := hw
    rw [hq]
    obtain ⟨hk, hi, hw⟩ := hw
    refine G_iald (pc := 88) C hk hi dX6_makePlan_88 ?_
    obtain ⟨hk, hw⟩ := hw
    refine pf_RX6_33 (pc := 89) C dX6_makePlan_89 hk ?_
    obtain ⟨S5, hS5⟩ : ∃ y : Hp, y = sI S 99 v0 0 (gI S 0 b4 ((gI S 36 v1 0)).toNatClampNeg) := ⟨_, rfl⟩
    have hw := hw S5 hS5
    rw [← hS5]
    clear hS5
    refine G_aload_n (pc := 92) C 0 dX6_makePlan_92 rfl rfl ?_
    obtain ⟨hk, hw⟩ := hw
    refine gf_RX6_33 (pc := 93) C dX6_makePlan_93 hk ?_
    refine G_ldc (pc := 96) C kw_RX6_36 dX6_makePlan_96 ?_
    refine G_icmp_lt (pc := 98) C 103 dX6_makePlan_98 (by decide) (fun hc => ?_) (fun hc => ?_)
    · have hw := hw.1 hc
      refine G_aload_n (pc := 103) C 0 dX6_makePlan_103 rfl rfl ?_
      refine G_aload_n (pc := 104) C 1 dX6_makePlan_104 rfl rfl ?_
      obtain ⟨hk, hw⟩ := hw
      refine cl_RX6_37 (pc := 105) C (c_X6_chooseNeeds l z (v0) (v1) S5 _ hw) ⟨Nat.le_of_ble_eq_true rfl, Nat.le_of_ble_eq_true rfl⟩ hk dX6_makePlan_105 (Nat.le_of_ble_eq_true rfl) (fun v S' hp => ?_)
      clear hw
      obtain ⟨rfl, hw⟩ := hp
      generalize S' = S7 at hw ⊢
      refine G_iconst (pc := 108) C (v := 1) dX6_makePlan_108 (by decide) ?_
      exact G_zret (pc := 109) C rfl (by decide) dX6_makePlan_109 ⟨_, rfl, hw⟩
    · have hw := hw.2 hc
      refine G_iconst (pc := 101) C (v := 0) dX6_makePlan_101 (by decide) ?_
      exact G_zret (pc := 102) C rfl (by decide) dX6_makePlan_102 ⟨_, rfl, hw⟩
  · have hw := hw.2 hc
    refine G_iconst (pc := 36) C (v := 0) dX6_makePlan_36 (by decide) ?_
    refine G_istore (pc := 37) C [(4, .int ((0 : Int32))), (0, .ref (v0)), (1, .ref (v1)), (3, .int (v3))] dX6_makePlan_37 (by decide) rfl ?_
    exact G_sub [1, 2, 3, 0] rfl (g_X6_makePlan_39 C hK32 hw)
set_option maxHeartbeats 4000000 in
set_option maxRecDepth 100000 in
theorem g_X6_makePlan_32 (C : Cx p s m args meth c z cX6_makePlan 5 RX6 (some .boolean) "makePlan")  {Q : Int32 → Hp → Prop} {v0 : Nat} {v1 : Nat} {v3 : Int32} {S : Hp}   (hw : wp_X6_makePlan_32  Q v0 v1 v3 S) : Go p l e { frames := 3, cells := 0, slots := 0, locals := 71 } s m args below meth c z 5 (MQ below (Qx z (wI Q)) args s 0 0 (own z)) (0) (0) 32 [(0, .ref (v0)), (1, .ref (v1)), (3, .int (v3))] [] (S) :=
  Lp_go (G := fun y : Int32 × Hp => Go p l e { frames := 3, cells := 0, slots := 0, locals := 71 } s m args below meth c z 5 (MQ below (Qx z (wI Q)) args s 0 0 (own z)) (0) (0) 32 [(0, .ref (v0)), (1, .ref (v1)), (3, .int (y.1))] [] (y.2)) (fun K y hK hB => gb_X6_makePlan_32 C  (fun w0 w1 h => hK (w0, w1) h) hB) hw
set_option maxHeartbeats 4000000 in
set_option maxRecDepth 100000 in
theorem gb_X6_makePlan_7 (C : Cx p s m args meth c z cX6_makePlan 5 RX6 (some .boolean) "makePlan") {K7 : Int32 → Hp → Prop} {Q : Int32 → Hp → Prop} {v0 : Nat} {v1 : Nat} {v2 : Int32} {v3 : Int32} {S : Hp}  (hK7 : ∀ (w3 : Int32) (S2 : Hp), K7 w3 S2 → Go p l e { frames := 3, cells := 0, slots := 0, locals := 71 } s m args below meth c z 5 (MQ below (Qx z (wI Q)) args s 0 0 (own z)) (0) (0) 7 [(0, .ref (v0)), (1, .ref (v1)), (2, .int (v2)), (3, .int (w3))] [] (S2)) (hw : wb_X6_makePlan_7  K7 Q v0 v1 v2 v3 S) : Go p l e { frames := 3, cells := 0, slots := 0, locals := 71 } s m args below meth c z 5 (MQ below (Qx z (wI Q)) args s 0 0 (own z)) (0) (0) 7 [(0, .ref (v0)), (1, .ref (v1)), (2, .int (v2)), (3, .int (v3))] [] (S) := by
  refine G_iload_n (pc := 7) C 3 dX6_makePlan_7 rfl rfl ?_
  refine G_bipush (pc := 8) C (v := 40) dX6_makePlan_8 (by decide) ?_
  refine G_icmp_gt (pc := 10) C 28 dX6_makePlan_10 (by decide) (fun hc => ?_) (fun hc => ?_)
  · have hw := hw.1 hc
    refine G_iload_n (pc := 28) C 2 dX6_makePlan_28 rfl rfl ?_
    refine G_iconst (pc := 29) C (v := 1) dX6_makePlan_29 (by decide) ?_
    refine G_isub (pc := 30) C dX6_makePlan_30 ?_
    refine G_topi (fun e2 he2 => ?_)
    have hw := hw e2 he2
    clear he2
    refine G_istore_n (pc := 31) C [(3, .int (e2)), (0, .ref (v0)), (1, .ref (v1)), (2, .int (v2))] dX6_makePlan_31 rfl (by decide) rfl ?_
    exact G_sub [1, 2, 0] rfl (g_X6_makePlan_32 C  hw)
  · have hw := hw.2 hc
    refine G_aload_n (pc := 13) C 0 dX6_makePlan_13 rfl rfl ?_
    obtain ⟨hk, hw⟩ := hw
    refine gf_RX6_11 (pc := 14) C dX6_makePlan_14 hk ?_
    refine G_iload_n (pc := 17) C 2 dX6_makePlan_17 rfl rfl ?_
    obtain ⟨b15, hq, hw⟩ := hw
    rw [hq]
    obtain ⟨hk, hi, hw⟩ := hw
    refine G_aald (pc := 18) C 5 rfl (by decide) rfl hk hi dX6_makePlan_18 ?_
    refine G_iload_n (pc := 19) C 3 dX6_makePlan_19 rfl rfl ?_
    refine G_iconst (pc := 20) C (v := 0) dX6_makePlan_20 (by decide) ?_
    obtain ⟨b16, hq, hw⟩ := hw
    rw [hq]
    obtain ⟨hk, hi, hw⟩ := hw
    refine G_iast (pc := 21) C hk hi dX6_makePlan_21 ?_
    obtain ⟨S17, hS17⟩ : ∃ y : Hp, y = sI S 0 b16 (v3).toNatClampNeg (0 : Int32) := ⟨_, rfl⟩
    have hw := hw S17 hS17
    rw [← hS17]
    clear hS17
    obtain ⟨e18, he18⟩ : ∃ y : Int32, y = (v3 + 1) := ⟨_, rfl⟩
    have hw := hw e18 he18
    refine G_iinc (pc := 22) C [(3, .int (e18)), (0, .ref (v0)), (1, .ref (v1)), (2, .int (v2))] 3 (v := e18) dX6_makePlan_22 rfl (by rw [he18]; rfl) (by decide) rfl ?_
    clear he18
    refine G_goto (pc := 25) C 7 dX6_makePlan_25 (by decide) ?_
    exact G_sub [1, 2, 3, 0] rfl (hK7 _ _ hw)
set_option maxHeartbeats 4000000 in
set_option maxRecDepth 100000 in
theorem g_X6_makePlan_7 (C : Cx p s m args meth c z cX6_makePlan 5 RX6 (some .boolean) "makePlan")  {Q : Int32 → Hp → Prop} {v0 : Nat} {v1 : Nat} {v2 : Int32} {v3 : Int32} {S : Hp}   (hw : wp_X6_makePlan_7  Q v0 v1 v2 v3 S) : Go p l e { frames := 3, cells := 0, slots := 0, locals := 71 } s m args below meth c z 5 (MQ below (Qx z (wI Q)) args s 0 0 (own z)) (0) (0) 7 [(0, .ref (v0)), (1, .ref (v1)), (2, .int (v2)), (3, .int (v3))] [] (S) :=
  Lp_go (G := fun y : Int32 × Hp => Go p l e { frames := 3, cells := 0, slots := 0, locals := 71 } s m args below meth c z 5 (MQ below (Qx z (wI Q)) args s 0 0 (own z)) (0) (0) 7 [(0, .ref (v0)), (1, .ref (v1)), (2, .int (v2)), (3, .int (y.1))] [] (y.2)) (fun K y hK hB => gb_X6_makePlan_7 C  (fun w0 w1 h => hK (w0, w1) h) hB) hw
set_option maxHeartbeats 4000000 in
set_option maxRecDepth 100000 in
theorem c_X6_makePlan (l : Launch) (z : Zt) (a0 : Nat) (a1 : Nat) (S : Hp) (Q : Int32 → Hp → Prop) (hw : wp_X6_makePlan a0 a1 S Q) : Ct l z yX6_makePlan cX6_makePlan 5 (some .boolean) 3 71 0 0 [.ref (a0), .ref (a1)] S (wI Q) := by
  refine Ct_of (by decide) (Nat.le_of_ble_eq_true rfl) ?_
  intro p e s m args below meth c C
  have C : Cx p s m args meth c z cX6_makePlan 5 RX6 (some .boolean) "makePlan" := C
  refine G_sub (lv' := [(0, .ref (a0)), (1, .ref (a1))]) [0, 1] rfl ?_
  refine G_aload_n (pc := 0) C 1 dX6_makePlan_0 rfl rfl ?_
  obtain ⟨hk, hw⟩ := hw
  refine gf_RX6_20 (pc := 1) C dX6_makePlan_1 hk ?_
  refine G_topi (fun e1 he1 => ?_)
  have hw := hw e1 he1
  clear he1
  refine G_istore_n (pc := 4) C [(2, .int (e1)), (0, .ref (a0)), (1, .ref (a1))] dX6_makePlan_4 rfl (by decide) rfl ?_
  refine G_iconst (pc := 5) C (v := 0) dX6_makePlan_5 (by decide) ?_
  refine G_istore_n (pc := 6) C [(3, .int ((0 : Int32))), (2, .int (e1)), (0, .ref (a0)), (1, .ref (a1))] dX6_makePlan_6 rfl (by decide) rfl ?_
  exact G_sub [2, 3, 1, 0] rfl (g_X6_makePlan_7 C  hw)
end W15plannerleantxt
