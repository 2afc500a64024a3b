section W11partleantxt
variable {p : Program} {l : Launch} {e : Env} {R : Room} {s : State} {m : MethodId} {args : Array Value} {below : List Frame} {meth : Method} {c : Code} {z : Zt} {cc : ByteArray} {nL : Nat} {ow : String} {ret : Option FieldType} {nm : String} {Q : State → Prop} {bc bs pc : Nat} {lv : List (Nat × Value)} {st : List Value} {S : Hp}
theorem dsc_X11_within : dsc yX11_within 3 := ⟨by decide, by decide, by decide +kernel⟩
theorem cl_RX11_64 (C : Cx p s m args meth c z cc nL RX11 ret nm) {q0 : Int32} {q1 : Int32} {q2 : Int32} {rest : List Value} {post : Option Value → Hp → Prop} (hm : Ct l z yX11_within cX11_within 3 (some .boolean) 0 0 0 0 [.int (q0), .int (q1), .int (q2)] S post) (hR : 0 + 1 ≤ R.frames ∧ 8 + (3 + 11) + 0 ≤ R.locals) (hd : decode cc pc = .ok (.invokestatic 64, 3)) (hW : (rest.map fun v => v.category).sum ≤ 8) (k : ∀ (v : Option Value) (S' : Hp), post v S' → Go p l e R s m args below meth c z nL Q bc bs (pc + 3) lv (v.toList ++ rest) S') : Go p l e R s m args below meth c z nL Q bc bs pc lv (.int (q2) :: .int (q1) :: .int (q0) :: rest) S := G_callS C (gt_t 270 (by decide +kernel) rfl) (gt_t 271 (by decide +kernel) rfl) (gt_t 1 (by decide +kernel) rfl) (gt_t 272 (by decide +kernel) rfl) (dsc_X11_within) hm rfl hR rfl hW hd k
theorem dsc_J9_floorMod_7cf53 : dsc yJ9_floorMod_7cf53 2 := ⟨by decide, by decide, by decide +kernel⟩
theorem cl_RX11_286 (C : Cx p s m args meth c z cc nL RX11 ret nm) {q0 : Int32} {q1 : Int32} {rest : List Value} {post : Option Value → Hp → Prop} (hm : Ct l z yJ9_floorMod_7cf53 cJ9_floorMod_7cf53 3 (some .int) 0 0 0 0 [.int (q0), .int (q1)] S post) (hR : 0 + 1 ≤ R.frames ∧ 8 + (3 + 11) + 0 ≤ R.locals) (hd : decode cc pc = .ok (.invokestatic 286, 3)) (hW : (rest.map fun v => v.category).sum ≤ 8) (k : ∀ (v : Option Value) (S' : Hp), post v S' → Go p l e R s m args below meth c z nL Q bc bs (pc + 3) lv (v.toList ++ rest) S') : Go p l e R s m args below meth c z nL Q bc bs pc lv (.int (q1) :: .int (q0) :: rest) S := G_callS C (gt_t 273 (by decide +kernel) rfl) (gt_t 274 (by decide +kernel) rfl) (gt_t 10 (by decide +kernel) rfl) (gt_t 275 (by decide +kernel) rfl) (dsc_J9_floorMod_7cf53) hm rfl hR rfl hW hd k
theorem oi_RX5_1 : Cond.methodLink RX5 1 Lib.objectInit ∈ gt := gt_t 119 (by decide +kernel) rfl
theorem pf_RX5_7 (C : Cx p s m args meth c z cc nL RX5 ret nm) {a : Nat} {v : Option Nat} (hfn : nm = "<init>") (hd : decode cc pc = .ok (.putfield 7, 3)) (hk : kd S a = 6) (k : Go p l e R s m args below meth c z nL Q bc bs (pc + 3) lv st (sR S 81 a 0 v)) : Go p l e R s m args below meth c z nL Q bc bs pc lv (va_rf v :: .ref a :: st) S := G_putR C 5 0 3 rfl rfl (by decide) in_X5 tyX5 tyX5_ok nmX5 rfl rfl (gt_t 120 (by decide +kernel) rfl) (Or.inr ⟨rfl, hfn, rfl⟩) (fun _ => rfl) rfl (fun _ => rfl) rfl hd hk k
theorem pf_RX5_13 (C : Cx p s m args meth c z cc nL RX5 ret nm) {a : Nat} {v : Int32} (hfn : nm = "<init>") (hd : decode cc pc = .ok (.putfield 13, 3)) (hk : kd S a = 6) (k : Go p l e R s m args below meth c z nL Q bc bs (pc + 3) lv st (sI S 82 a 0 v)) : Go p l e R s m args below meth c z nL Q bc bs pc lv (.int v :: .ref a :: st) S := G_putI C 5 1 3 rfl rfl (by decide) in_X5 tyX5 tyX5_ok nmX5 rfl rfl (gt_t 124 (by decide +kernel) rfl) (Or.inr ⟨rfl, hfn, rfl⟩) rfl rfl hd hk k
theorem pf_RX5_17 (C : Cx p s m args meth c z cc nL RX5 ret nm) {a : Nat} {v : Int32} (hfn : nm = "<init>") (hd : decode cc pc = .ok (.putfield 17, 3)) (hk : kd S a = 6) (k : Go p l e R s m args below meth c z nL Q bc bs (pc + 3) lv st (sI S 83 a 0 v)) : Go p l e R s m args below meth c z nL Q bc bs pc lv (.int v :: .ref a :: st) S := G_putI C 5 2 3 rfl rfl (by decide) in_X5 tyX5 tyX5_ok nmX5 rfl rfl (gt_t 128 (by decide +kernel) rfl) (Or.inr ⟨rfl, hfn, rfl⟩) rfl rfl hd hk k
theorem cl_RX5_20 (C : Cx p s m args meth c z cc nL RX5 ret nm) {q0 : Int32} {q1 : Int32} {q2 : Int32} {rest : List Value} {post : Option Value → Hp → Prop} (hm : Ct l z yX11_within cX11_within 3 (some .boolean) 0 0 0 0 [.int (q0), .int (q1), .int (q2)] S post) (hR : 0 + 1 ≤ R.frames ∧ 8 + (3 + 11) + 0 ≤ R.locals) (hd : decode cc pc = .ok (.invokestatic 20, 3)) (hW : (rest.map fun v => v.category).sum ≤ 8) (k : ∀ (v : Option Value) (S' : Hp), post v S' → Go p l e R s m args below meth c z nL Q bc bs (pc + 3) lv (v.toList ++ rest) S') : Go p l e R s m args below meth c z nL Q bc bs pc lv (.int (q2) :: .int (q1) :: .int (q0) :: rest) S := G_callN C (by decide) (gt_t 271 (by decide +kernel) rfl) (gt_t 1 (by decide +kernel) rfl) (gt_t 272 (by decide +kernel) rfl) (dsc_X11_within) hm rfl hR rfl hW hd k
theorem gf_RX5_7 (C : Cx p s m args meth c z cc nL RX5 ret nm) {a : Nat} (hd : decode cc pc = .ok (.getfield 7, 3)) (hk : kd S a = 6) (k : Go p l e R s m args below meth c z nL Q bc bs (pc + 3) lv (va_rf (gR S 81 a 0) :: st) S) : Go p l e R s m args below meth c z nL Q bc bs pc lv (.ref a :: st) S := G_getR C 5 0 3 rfl rfl (by decide) in_X5 rfl rfl (gt_t 120 (by decide +kernel) rfl) hd hk k
theorem dsc_X11_stripesFor : dsc yX11_stripesFor 2 := ⟨by decide, by decide, by decide +kernel⟩
theorem cl_RX5_26 (C : Cx p s m args meth c z cc nL RX5 ret nm) {q0 : Int32} {q1 : Int32} {rest : List Value} {post : Option Value → Hp → Prop} (hm : Ct l z yX11_stripesFor cX11_stripesFor 2 (some .int) 0 0 0 0 [.int (q0), .int (q1)] S post) (hR : 0 + 1 ≤ R.frames ∧ 8 + (2 + 11) + 0 ≤ R.locals) (hd : decode cc pc = .ok (.invokestatic 26, 3)) (hW : (rest.map fun v => v.category).sum ≤ 8) (k : ∀ (v : Option Value) (S' : Hp), post v S' → Go p l e R s m args below meth c z nL Q bc bs (pc + 3) lv (v.toList ++ rest) S') : Go p l e R s m args below meth c z nL Q bc bs pc lv (.int (q1) :: .int (q0) :: rest) S := G_callN C (by decide) (gt_t 232 (by decide +kernel) rfl) (gt_t 1 (by decide +kernel) rfl) (gt_t 233 (by decide +kernel) rfl) (dsc_X11_stripesFor) hm rfl hR rfl hW hd k
theorem gf_RX5_13 (C : Cx p s m args meth c z cc nL RX5 ret nm) {a : Nat} (hd : decode cc pc = .ok (.getfield 13, 3)) (hk : kd S a = 6) (k : Go p l e R s m args below meth c z nL Q bc bs (pc + 3) lv (.int (gI S 82 a 0) :: st) S) : Go p l e R s m args below meth c z nL Q bc bs pc lv (.ref a :: st) S := G_getI C 5 1 3 rfl rfl (by decide) in_X5 rfl rfl (gt_t 124 (by decide +kernel) rfl) hd hk k
theorem dsc_J9_min_7cf53 : dsc yJ9_min_7cf53 2 := ⟨by decide, by decide, by decide +kernel⟩
theorem cl_RX4_18 (C : Cx p s m args meth c z cc nL RX4 ret nm) {q0 : Int32} {q1 : Int32} {rest : List Value} {post : Option Value → Hp → Prop} (hm : Ct l z yJ9_min_7cf53 cJ9_min_7cf53 2 (some .int) 0 0 0 0 [.int (q0), .int (q1)] S post) (hR : 0 + 1 ≤ R.frames ∧ 8 + (2 + 11) + 0 ≤ R.locals) (hd : decode cc pc = .ok (.invokestatic 18, 3)) (hW : (rest.map fun v => v.category).sum ≤ 8) (k : ∀ (v : Option Value) (S' : Hp), post v S' → Go p l e R s m args below meth c z nL Q bc bs (pc + 3) lv (v.toList ++ rest) S') : Go p l e R s m args below meth c z nL Q bc bs pc lv (.int (q1) :: .int (q0) :: rest) S := G_callS C (gt_t 241 (by decide +kernel) rfl) (gt_t 217 (by decide +kernel) rfl) (gt_t 10 (by decide +kernel) rfl) (gt_t 218 (by decide +kernel) rfl) (dsc_J9_min_7cf53) hm rfl hR rfl hW hd k
theorem oi_RX4_3 : Cond.methodLink RX4 3 Lib.objectInit ∈ gt := gt_t 240 (by decide +kernel) rfl
theorem pf_RX4_9 (C : Cx p s m args meth c z cc nL RX4 ret nm) {a : Nat} {v : Option Nat} (hfn : nm = "<init>") (hd : decode cc pc = .ok (.putfield 9, 3)) (hk : kd S a = 5) (k : Go p l e R s m args below meth c z nL Q bc bs (pc + 3) lv st (sR S 65 a 0 v)) : Go p l e R s m args below meth c z nL Q bc bs pc lv (va_rf v :: .ref a :: st) S := G_putR C 4 0 4 rfl rfl (by decide) in_X4 tyX4 tyX4_ok nmX4 rfl rfl (gt_t 242 (by decide +kernel) rfl) (Or.inr ⟨rfl, hfn, rfl⟩) (fun _ => rfl) rfl (fun _ => rfl) rfl hd hk k
theorem pf_RX4_15 (C : Cx p s m args meth c z cc nL RX4 ret nm) {a : Nat} {v : Option Nat} (hfn : nm = "<init>") (hd : decode cc pc = .ok (.putfield 15, 3)) (hk : kd S a = 5) (k : Go p l e R s m args below meth c z nL Q bc bs (pc + 3) lv st (sR S 66 a 0 v)) : Go p l e R s m args below meth c z nL Q bc bs pc lv (va_rf v :: .ref a :: st) S := G_putR C 4 1 4 rfl rfl (by decide) in_X4 tyX4 tyX4_ok nmX4 rfl rfl (gt_t 243 (by decide +kernel) rfl) (Or.inr ⟨rfl, hfn, rfl⟩) (fun _ => rfl) rfl (fun _ => rfl) rfl hd hk k
theorem pf_RX4_24 (C : Cx p s m args meth c z cc nL RX4 ret nm) {a : Nat} {v : Int32} (hd : decode cc pc = .ok (.putfield 24, 3)) (hk : kd S a = 5) (k : Go p l e R s m args below meth c z nL Q bc bs (pc + 3) lv st (sI S 67 a 0 v)) : Go p l e R s m args below meth c z nL Q bc bs pc lv (.int v :: .ref a :: st) S := G_putI C 4 2 4 rfl rfl (by decide) in_X4 tyX4 tyX4_ok nmX4 rfl rfl (gt_t 247 (by decide +kernel) rfl) (Or.inl rfl) rfl rfl hd hk k
theorem pf_RX4_28 (C : Cx p s m args meth c z cc nL RX4 ret nm) {a : Nat} {v : Int32} (hd : decode cc pc = .ok (.putfield 28, 3)) (hk : kd S a = 5) (hb : v = 0 ∨ v = 1) (k : Go p l e R s m args below meth c z nL Q bc bs (pc + 3) lv st (sI S 68 a 0 v)) : Go p l e R s m args below meth c z nL Q bc bs pc lv (.int v :: .ref a :: st) S := G_putI C 4 3 4 rfl rfl (by decide) in_X4 tyX4 tyX4_ok nmX4 rfl rfl (gt_t 250 (by decide +kernel) rfl) (Or.inl rfl) (by rcases hb with rfl | rfl <;> rfl) (by rcases hb with rfl | rfl <;> rfl) hd hk k
theorem cl_RX4_32 (C : Cx p s m args meth c z cc nL RX4 ret nm) {q0 : Int32} {q1 : Int32} {q2 : Int32} {rest : List Value} {post : Option Value → Hp → Prop} (hm : Ct l z yX11_within cX11_within 3 (some .boolean) 0 0 0 0 [.int (q0), .int (q1), .int (q2)] S post) (hR : 0 + 1 ≤ R.frames ∧ 8 + (3 + 11) + 0 ≤ R.locals) (hd : decode cc pc = .ok (.invokestatic 32, 3)) (hW : (rest.map fun v => v.category).sum ≤ 8) (k : ∀ (v : Option Value) (S' : Hp), post v S' → Go p l e R s m args below meth c z nL Q bc bs (pc + 3) lv (v.toList ++ rest) S') : Go p l e R s m args below meth c z nL Q bc bs pc lv (.int (q2) :: .int (q1) :: .int (q0) :: rest) S := G_callN C (by decide) (gt_t 271 (by decide +kernel) rfl) (gt_t 1 (by decide +kernel) rfl) (gt_t 272 (by decide +kernel) rfl) (dsc_X11_within) hm rfl hR rfl hW hd k
theorem gf_RX4_9 (C : Cx p s m args meth c z cc nL RX4 ret nm) {a : Nat} (hd : decode cc pc = .ok (.getfield 9, 3)) (hk : kd S a = 5) (k : Go p l e R s m args below meth c z nL Q bc bs (pc + 3) lv (va_rf (gR S 65 a 0) :: st) S) : Go p l e R s m args below meth c z nL Q bc bs pc lv (.ref a :: st) S := G_getR C 4 0 4 rfl rfl (by decide) in_X4 rfl rfl (gt_t 242 (by decide +kernel) rfl) hd hk k
theorem gf_RX4_15 (C : Cx p s m args meth c z cc nL RX4 ret nm) {a : Nat} (hd : decode cc pc = .ok (.getfield 15, 3)) (hk : kd S a = 5) (k : Go p l e R s m args below meth c z nL Q bc bs (pc + 3) lv (va_rf (gR S 66 a 0) :: st) S) : Go p l e R s m args below meth c z nL Q bc bs pc lv (.ref a :: st) S := G_getR C 4 1 4 rfl rfl (by decide) in_X4 rfl rfl (gt_t 243 (by decide +kernel) rfl) hd hk k
theorem gf_RX4_24 (C : Cx p s m args meth c z cc nL RX4 ret nm) {a : Nat} (hd : decode cc pc = .ok (.getfield 24, 3)) (hk : kd S a = 5) (k : Go p l e R s m args below meth c z nL Q bc bs (pc + 3) lv (.int (gI S 67 a 0) :: st) S) : Go p l e R s m args below meth c z nL Q bc bs pc lv (.ref a :: st) S := G_getI C 4 2 4 rfl rfl (by decide) in_X4 rfl rfl (gt_t 247 (by decide +kernel) rfl) hd hk k
theorem gf_RX4_28 (C : Cx p s m args meth c z cc nL RX4 ret nm) {a : Nat} (hd : decode cc pc = .ok (.getfield 28, 3)) (hk : kd S a = 5) (k : Go p l e R s m args below meth c z nL Q bc bs (pc + 3) lv (.int (gI S 68 a 0) :: st) S) : Go p l e R s m args below meth c z nL Q bc bs pc lv (.ref a :: st) S := G_getI C 4 3 4 rfl rfl (by decide) in_X4 rfl rfl (gt_t 250 (by decide +kernel) rfl) hd hk k
theorem dsc_X4_holds : dsc yX4_holds 1 := ⟨by decide, by decide, by decide +kernel⟩
theorem cl_RX4_36 (C : Cx p s m args meth c z cc nL RX4 ret nm) {a : Nat} {q0 : Int32} {rest : List Value} {post : Option Value → Hp → Prop} (hm : Ct l z yX4_holds cX4_holds 2 (some .boolean) 1 22 0 0 [.ref a, .int (q0)] S post) (hR : 1 + 1 ≤ R.frames ∧ 8 + (2 + 11) + 22 ≤ R.locals) (hk : kd S a = 5) (hd : decode cc pc = .ok (.invokevirtual 36, 3)) (hW : (rest.map fun v => v.category).sum ≤ 8) (k : ∀ (v : Option Value) (S' : Hp), post v S' → Go p l e R s m args below meth c z nL Q bc bs (pc + 3) lv (v.toList ++ rest) S') : Go p l e R s m args below meth c z nL Q bc bs pc lv (.int (q0) :: .ref a :: rest) S := G_callV C 4 4 rfl rfl (gt_t 622 (by decide +kernel) rfl) (gt_t 611 (by decide +kernel) rfl) (gt_t 612 (by decide +kernel) rfl) (gt_t 11 (by decide +kernel) rfl) (gt_t 613 (by decide +kernel) rfl) (dsc_X4_holds) hm rfl hR hk rfl hW hd k
theorem oi_RX0_1 : Cond.methodLink RX0 1 Lib.objectInit ∈ gt := gt_t 58 (by decide +kernel) rfl
/-! FirstParts.within(III)Z -/
abbrev wp_X11_within_15  (Q : Int32 → Prop) (s0 : Int32) (S : Hp) : Prop :=
  (s0 = 0 ∨ s0 = 1) ∧ Q s0
abbrev wp_X11_within_14  (Q : Int32 → Prop)  (S : Hp) : Prop :=
  wp_X11_within_15 Q ((0 : Int32)) (S)
abbrev wp_X11_within (x0 : Int32) (x1 : Int32) (x2 : Int32) (S : Hp) (Q : Int32 → Prop) : Prop :=
  ((x0 < x1 → wp_X11_within_14 Q (S)) ∧ (¬ x0 < x1 → ((x2 < x0 → wp_X11_within_14 Q (S)) ∧ (¬ x2 < x0 → wp_X11_within_15 Q ((1 : Int32)) (S)))))
set_option maxHeartbeats 4000000 in
set_option maxRecDepth 100000 in
theorem g_X11_within_15 (C : Cx p s m args meth c z cX11_within 3 RX11 (some .boolean) "within")  {Q : Int32 → Prop} {s0 : Int32} {S : Hp}   (hw : wp_X11_within_15  Q s0 S) : Go p l e { frames := 0, cells := 0, slots := 0, locals := 0 } s m args below meth c z 3 (MQ below (Qx z (pI S Q)) args s 0 0 (own z)) (0) (0) 15 [] [.int (s0)] (S) := by
  obtain ⟨hb, hw⟩ := hw
  exact G_zret (pc := 15) C rfl hb dX11_within_15 ⟨rfl, _, rfl, hw⟩
set_option maxHeartbeats 4000000 in
set_option maxRecDepth 100000 in
theorem g_X11_within_14 (C : Cx p s m args meth c z cX11_within 3 RX11 (some .boolean) "within")  {Q : Int32 → Prop}  {S : Hp}   (hw : wp_X11_within_14  Q  S) : Go p l e { frames := 0, cells := 0, slots := 0, locals := 0 } s m args below meth c z 3 (MQ below (Qx z (pI S Q)) args s 0 0 (own z)) (0) (0) 14 [] [] (S) := by
  refine G_iconst (pc := 14) C (v := 0) dX11_within_14 (by decide) ?_
  exact G_sub [] rfl (g_X11_within_15 C  hw)
set_option maxHeartbeats 4000000 in
set_option maxRecDepth 100000 in
theorem c_X11_within (l : Launch) (z : Zt) (x0 : Int32) (x1 : Int32) (x2 : Int32) (S : Hp) (Q : Int32 → Prop) (hw : wp_X11_within x0 x1 x2 S Q) : Ct l z yX11_within cX11_within 3 (some .boolean) 0 0 0 0 [.int (x0), .int (x1), .int (x2)] S (pI S Q) := by
  refine Ct_of (by decide) (Nat.le_of_ble_eq_true rfl) ?_
  intro p e s m args below meth c C
  have C : Cx p s m args meth c z cX11_within 3 RX11 (some .boolean) "within" := C
  refine G_sub (lv' := [(0, .int (x0)), (1, .int (x1)), (2, .int (x2))]) [0, 1, 2] rfl ?_
  refine G_iload_n (pc := 0) C 0 dX11_within_0 rfl rfl ?_
  refine G_iload_n (pc := 1) C 1 dX11_within_1 rfl rfl ?_
  refine G_icmp_lt (pc := 2) C 14 dX11_within_2 (by decide) (fun hc => ?_) (fun hc => ?_)
  · have hw := hw.1 hc
    exact G_sub [] rfl (g_X11_within_14 C  hw)
  · have hw := hw.2 hc
    refine G_iload_n (pc := 5) C 0 dX11_within_5 rfl rfl ?_
    refine G_iload_n (pc := 6) C 2 dX11_within_6 rfl rfl ?_
    refine G_icmp_gt (pc := 7) C 14 dX11_within_7 (by decide) (fun hc => ?_) (fun hc => ?_)
    · have hw := hw.1 hc
      exact G_sub [] rfl (g_X11_within_14 C  hw)
    · have hw := hw.2 hc
      refine G_iconst (pc := 10) C (v := 1) dX11_within_10 (by decide) ?_
      refine G_goto (pc := 11) C 15 dX11_within_11 (by decide) ?_
      exact G_sub [] rfl (g_X11_within_15 C  hw)
/-! FirstParts.stripesFor(II)I -/
abbrev wp_X11_stripesFor_16  (Q : Int32 → Prop) (s0 : Int32) (S : Hp) : Prop :=
  Q s0
abbrev wp_X11_stripesFor (x0 : Int32) (x1 : Int32) (S : Hp) (Q : Int32 → Prop) : Prop :=
  (((1 : Int32) ≤ x1 → ¬ x1 = 0 ∧ wp_X11_stripesFor_16 Q ((((x0 + x1) - (1 : Int32)) / x1)) (S)) ∧ (¬ (1 : Int32) ≤ x1 → wp_X11_stripesFor_16 Q ((0 : Int32)) (S)))
set_option maxHeartbeats 4000000 in
set_option maxRecDepth 100000 in
theorem g_X11_stripesFor_16 (C : Cx p s m args meth c z cX11_stripesFor 2 RX11 (some .int) "stripesFor")  {Q : Int32 → Prop} {s0 : Int32} {S : Hp}   (hw : wp_X11_stripesFor_16  Q s0 S) : Go p l e { frames := 0, cells := 0, slots := 0, locals := 0 } s m args below meth c z 2 (MQ below (Qx z (pI S Q)) args s 0 0 (own z)) (0) (0) 16 [] [.int (s0)] (S) := by
  exact G_iret (pc := 16) C rfl dX11_stripesFor_16 ⟨rfl, _, rfl, hw⟩
set_option maxHeartbeats 4000000 in
set_option maxRecDepth 100000 in
theorem c_X11_stripesFor (l : Launch) (z : Zt) (x0 : Int32) (x1 : Int32) (S : Hp) (Q : Int32 → Prop) (hw : wp_X11_stripesFor x0 x1 S Q) : Ct l z yX11_stripesFor cX11_stripesFor 2 (some .int) 0 0 0 0 [.int (x0), .int (x1)] S (pI S Q) := by
  refine Ct_of (by decide) (Nat.le_of_ble_eq_true rfl) ?_
  intro p e s m args below meth c C
  have C : Cx p s m args meth c z cX11_stripesFor 2 RX11 (some .int) "stripesFor" := C
  refine G_sub (lv' := [(0, .int (x0)), (1, .int (x1))]) [0, 1] rfl ?_
  refine G_iload_n (pc := 0) C 1 dX11_stripesFor_0 rfl rfl ?_
  refine G_iconst (pc := 1) C (v := 1) dX11_stripesFor_1 (by decide) ?_
  refine G_icmp_ge (pc := 2) C 9 dX11_stripesFor_2 (by decide) (fun hc => ?_) (fun hc => ?_)
  · have hw := hw.1 hc
    refine G_iload_n (pc := 9) C 0 dX11_stripesFor_9 rfl rfl ?_
    refine G_iload_n (pc := 10) C 1 dX11_stripesFor_10 rfl rfl ?_
    refine G_iadd (pc := 11) C dX11_stripesFor_11 ?_
    refine G_iconst (pc := 12) C (v := 1) dX11_stripesFor_12 (by decide) ?_
    refine G_isub (pc := 13) C dX11_stripesFor_13 ?_
    refine G_iload_n (pc := 14) C 1 dX11_stripesFor_14 rfl rfl ?_
    obtain ⟨h0, hw⟩ := hw
    refine G_idiv (pc := 15) C dX11_stripesFor_15 h0 ?_
    exact G_sub [] rfl (g_X11_stripesFor_16 C  hw)
  · have hw := hw.2 hc
    refine G_iconst (pc := 5) C (v := 0) dX11_stripesFor_5 (by decide) ?_
    refine G_goto (pc := 6) C 16 dX11_stripesFor_6 (by decide) ?_
    exact G_sub [] rfl (g_X11_stripesFor_16 C  hw)
/-! FirstParts.valueAt([IIII)I -/
abbrev wp_X11_valueAt_38 (K8 : Int32 → Int32 → Prop) (Q : Int32 → Prop) (v0 : Nat) (v1 : Int32) (v3 : Int32) (v4 : Int32) (v5 : Int32) (s0 : Int32) (S : Hp) : Prop :=
  wp_J9_floorMod_7cf53 (((v4 * v3) + s0)) ((29 : Int32)) S (fun e4 => ∀ e6 : Int32, e6 = (v5 + (-1)) → K8 (e4) (e6))
abbrev wb_X11_valueAt_8  (K8 : Int32 → Int32 → Prop) (Q : Int32 → Prop) (v0 : Nat) (v1 : Int32) (v3 : Int32) (v4 : Int32) (v5 : Int32) (S : Hp) : Prop :=
  ((v5 < 0 → Q v4) ∧ (¬ v5 < 0 → kd S v0 = 20 ∧ wp_X11_within ((v1 + v5)) ((0 : Int32)) (((Int32.ofNat (ln S v0)) - (1 : Int32))) S (fun e2 => ((e2 = 0 → wp_X11_valueAt_38 K8 Q (v0) (v1) (v3) (v4) (v5) ((0 : Int32)) (S)) ∧ (¬ e2 = 0 → kd S v0 = 20 ∧ vp_in (v1 + v5) (ln S v0) ∧ wp_X11_valueAt_38 K8 Q (v0) (v1) (v3) (v4) (v5) ((gI S 0 v0 ((v1 + v5)).toNatClampNeg)) (S))))))
abbrev wp_X11_valueAt_8  (Q : Int32 → Prop) (v0 : Nat) (v1 : Int32) (v3 : Int32) (v4 : Int32) (v5 : Int32) (S : Hp) : Prop :=
  Lp (X := Int32 × Int32) (fun K y => wb_X11_valueAt_8  (fun w0 w1 => K (w0, w1)) Q v0 v1 v3 y.1 y.2 S) (v4, v5)
abbrev wp_X11_valueAt (a0 : Nat) (x1 : Int32) (x2 : Int32) (x3 : Int32) (S : Hp) (Q : Int32 → Prop) : Prop :=
  ∀ e1 : Int32, e1 = (x2 - (1 : Int32)) → wp_X11_valueAt_8 Q (a0) (x1) (x3) ((0 : Int32)) (e1) (S)
set_option maxHeartbeats 4000000 in
set_option maxRecDepth 100000 in
theorem g_X11_valueAt_38 (C : Cx p s m args meth c z cX11_valueAt 7 RX11 (some .int) "valueAt") {K8 : Int32 → Int32 → Prop} {Q : Int32 → Prop} {v0 : Nat} {v1 : Int32} {v3 : Int32} {v4 : Int32} {v5 : Int32} {s0 : Int32} {S : Hp}  (hK8 : ∀ (w4 : Int32) (w5 : Int32), K8 w4 w5 → Go p l e { frames := 1, cells := 0, slots := 0, locals := 22 } s m args below meth c z 7 (MQ below (Qx z (pI S Q)) args s 0 0 (own z)) (0) (0) 8 [(0, .ref (v0)), (1, .int (v1)), (3, .int (v3)), (4, .int (w4)), (5, .int (w5))] [] (S)) (hw : wp_X11_valueAt_38 K8 Q v0 v1 v3 v4 v5 s0 S) : Go p l e { frames := 1, cells := 0, slots := 0, locals := 22 } s m args below meth c z 7 (MQ below (Qx z (pI S Q)) args s 0 0 (own z)) (0) (0) 38 [(0, .ref (v0)), (1, .int (v1)), (3, .int (v3)), (4, .int (v4)), (5, .int (v5))] [.int (s0)] (S) := by
  refine G_istore (pc := 38) C [(6, .int (s0)), (0, .ref (v0)), (1, .int (v1)), (3, .int (v3)), (4, .int (v4)), (5, .int (v5))] dX11_valueAt_38 (by decide) rfl ?_
  refine G_iload (pc := 40) C 4 dX11_valueAt_40 rfl ?_
  refine G_iload_n (pc := 42) C 3 dX11_valueAt_42 rfl rfl ?_
  refine G_imul (pc := 43) C dX11_valueAt_43 ?_
  refine G_iload (pc := 44) C 0 dX11_valueAt_44 rfl ?_
  refine G_iadd (pc := 46) C dX11_valueAt_46 ?_
  refine G_bipush (pc := 47) C (v := 29) dX11_valueAt_47 (by decide) ?_
  refine cl_RX11_286 (pc := 49) C (c_J9_floorMod_7cf53 l z (((v4 * v3) + s0)) ((29 : Int32)) S _ hw) ⟨Nat.le_of_ble_eq_true rfl, Nat.le_of_ble_eq_true rfl⟩ dX11_valueAt_49 (Nat.le_of_ble_eq_true rfl) (fun v S' hp => ?_)
  clear hw
  obtain ⟨hS, e4, rfl, hw⟩ := hp
  subst S'
  refine G_istore (pc := 52) C [(4, .int (e4)), (6, .int (s0)), (0, .ref (v0)), (1, .int (v1)), (3, .int (v3)), (5, .int (v5))] dX11_valueAt_52 (by decide) rfl ?_
  obtain ⟨e6, he6⟩ : ∃ y : Int32, y = (v5 + (-1)) := ⟨_, rfl⟩
  have hw := hw e6 he6
  refine G_iinc (pc := 54) C [(5, .int (e6)), (4, .int (e4)), (6, .int (s0)), (0, .ref (v0)), (1, .int (v1)), (3, .int (v3))] 5 (v := e6) dX11_valueAt_54 rfl (by rw [he6]; rfl) (by decide) rfl ?_
  clear he6
  refine G_goto (pc := 57) C 8 dX11_valueAt_57 (by decide) ?_
  exact G_sub [3, 4, 5, 1, 0] rfl (hK8 _ _ hw)
set_option maxHeartbeats 4000000 in
set_option maxRecDepth 100000 in
theorem gb_X11_valueAt_8 (C : Cx p s m args meth c z cX11_valueAt 7 RX11 (some .int) "valueAt") {K8 : Int32 → Int32 → Prop} {Q : Int32 → Prop} {v0 : Nat} {v1 : Int32} {v3 : Int32} {v4 : Int32} {v5 : Int32} {S : Hp}  (hK8 : ∀ (w4 : Int32) (w5 : Int32), K8 w4 w5 → Go p l e { frames := 1, cells := 0, slots := 0, locals := 22 } s m args below meth c z 7 (MQ below (Qx z (pI S Q)) args s 0 0 (own z)) (0) (0) 8 [(0, .ref (v0)), (1, .int (v1)), (3, .int (v3)), (4, .int (w4)), (5, .int (w5))] [] (S)) (hw : wb_X11_valueAt_8  K8 Q v0 v1 v3 v4 v5 S) : Go p l e { frames := 1, cells := 0, slots := 0, locals := 22 } s m args below meth c z 7 (MQ below (Qx z (pI S Q)) args s 0 0 (own z)) (0) (0) 8 [(0, .ref (v0)), (1, .int (v1)), (3, .int (v3)), (4, .int (v4)), (5, .int (v5))] [] (S) := by
  refine G_iload (pc := 8) C 4 dX11_valueAt_8 rfl ?_
  refine G_if_lt (pc := 10) C 60 dX11_valueAt_10 (by decide) (fun hc => ?_) (fun hc => ?_)
  · have hw := hw.1 hc
    refine G_iload (pc := 60) C 3 dX11_valueAt_60 rfl ?_
    exact G_iret (pc := 62) C rfl dX11_valueAt_62 ⟨rfl, _, rfl, hw⟩
  · have hw := hw.2 hc
    refine G_iload_n (pc := 13) C 1 dX11_valueAt_13 rfl rfl ?_
    refine G_iload (pc := 14) C 4 dX11_valueAt_14 rfl ?_
    refine G_iadd (pc := 16) C dX11_valueAt_16 ?_
    refine G_iconst (pc := 17) C (v := 0) dX11_valueAt_17 (by decide) ?_
    refine G_aload_n (pc := 18) C 0 dX11_valueAt_18 rfl rfl ?_
    obtain ⟨hk, hw⟩ := hw
    refine G_alenI (pc := 19) C hk dX11_valueAt_19 ?_
    refine G_iconst (pc := 20) C (v := 1) dX11_valueAt_20 (by decide) ?_
    refine G_isub (pc := 21) C dX11_valueAt_21 ?_
    refine cl_RX11_64 (pc := 22) C (c_X11_within l z ((v1 + v5)) ((0 : Int32)) (((Int32.ofNat (ln S v0)) - (1 : Int32))) S _ hw) ⟨Nat.le_of_ble_eq_true rfl, Nat.le_of_ble_eq_true rfl⟩ dX11_valueAt_22 (Nat.le_of_ble_eq_true rfl) (fun v S' hp => ?_)
    clear hw
    obtain ⟨hS, e2, rfl, hw⟩ := hp
    subst S'
    refine G_if_eq (pc := 25) C 37 dX11_valueAt_25 (by decide) (fun hc => ?_) (fun hc => ?_)
    · have hw := hw.1 hc
      refine G_iconst (pc := 37) C (v := 0) dX11_valueAt_37 (by decide) ?_
      exact G_sub [0, 1, 2, 3, 4] rfl (g_X11_valueAt_38 C hK8 hw)
    · have hw := hw.2 hc
      refine G_aload_n (pc := 28) C 0 dX11_valueAt_28 rfl rfl ?_
      refine G_iload_n (pc := 29) C 1 dX11_valueAt_29 rfl rfl ?_
      refine G_iload (pc := 30) C 4 dX11_valueAt_30 rfl ?_
      refine G_iadd (pc := 32) C dX11_valueAt_32 ?_
      obtain ⟨hk, hi, hw⟩ := hw
      refine G_iald (pc := 33) C hk hi dX11_valueAt_33 ?_
      refine G_goto (pc := 34) C 38 dX11_valueAt_34 (by decide) ?_
      exact G_sub [0, 1, 2, 3, 4] rfl (g_X11_valueAt_38 C hK8 hw)
set_option maxHeartbeats 4000000 in
set_option maxRecDepth 100000 in
theorem g_X11_valueAt_8 (C : Cx p s m args meth c z cX11_valueAt 7 RX11 (some .int) "valueAt")  {Q : Int32 → Prop} {v0 : Nat} {v1 : Int32} {v3 : Int32} {v4 : Int32} {v5 : Int32} {S : Hp}   (hw : wp_X11_valueAt_8  Q v0 v1 v3 v4 v5 S) : Go p l e { frames := 1, cells := 0, slots := 0, locals := 22 } s m args below meth c z 7 (MQ below (Qx z (pI S Q)) args s 0 0 (own z)) (0) (0) 8 [(0, .ref (v0)), (1, .int (v1)), (3, .int (v3)), (4, .int (v4)), (5, .int (v5))] [] (S) :=
  Lp_go (G := fun y : Int32 × Int32 => Go p l e { frames := 1, cells := 0, slots := 0, locals := 22 } s m args below meth c z 7 (MQ below (Qx z (pI S Q)) args s 0 0 (own z)) (0) (0) 8 [(0, .ref (v0)), (1, .int (v1)), (3, .int (v3)), (4, .int (y.1)), (5, .int (y.2))] [] (S)) (fun K y hK hB => gb_X11_valueAt_8 C  (fun w0 w1 h => hK (w0, w1) h) hB) hw
set_option maxHeartbeats 4000000 in
set_option maxRecDepth 100000 in
theorem c_X11_valueAt (l : Launch) (z : Zt) (a0 : Nat) (x1 : Int32) (x2 : Int32) (x3 : Int32) (S : Hp) (Q : Int32 → Prop) (hw : wp_X11_valueAt a0 x1 x2 x3 S Q) : Ct l z yX11_valueAt cX11_valueAt 7 (some .int) 1 22 0 0 [.ref (a0), .int (x1), .int (x2), .int (x3)] S (pI S Q) := by
  refine Ct_of (by decide) (Nat.le_of_ble_eq_true rfl) ?_
  intro p e s m args below meth c C
  have C : Cx p s m args meth c z cX11_valueAt 7 RX11 (some .int) "valueAt" := C
  refine G_sub (lv' := [(0, .ref (a0)), (1, .int (x1)), (2, .int (x2)), (3, .int (x3))]) [0, 1, 2, 3] rfl ?_
  refine G_iconst (pc := 0) C (v := 0) dX11_valueAt_0 (by decide) ?_
  refine G_istore (pc := 1) C [(4, .int ((0 : Int32))), (0, .ref (a0)), (1, .int (x1)), (2, .int (x2)), (3, .int (x3))] dX11_valueAt_1 (by decide) rfl ?_
  refine G_iload_n (pc := 3) C 3 dX11_valueAt_3 rfl rfl ?_
  refine G_iconst (pc := 4) C (v := 1) dX11_valueAt_4 (by decide) ?_
  refine G_isub (pc := 5) C dX11_valueAt_5 ?_
  refine G_topi (fun e1 he1 => ?_)
  have hw := hw e1 he1
  clear he1
  refine G_istore (pc := 6) C [(5, .int (e1)), (4, .int ((0 : Int32))), (0, .ref (a0)), (1, .int (x1)), (2, .int (x2)), (3, .int (x3))] dX11_valueAt_6 (by decide) rfl ?_
  exact G_sub [2, 3, 5, 1, 0] rfl (g_X11_valueAt_8 C  hw)
/-! FirstParts$Part.<init>([III)V -/
abbrev wp_X5_init (a0 : Nat) (a1 : Nat) (x2 : Int32) (x3 : Int32) (S : Hp) (Q : Hp → Prop) : Prop :=
  kd S a0 = 6 ∧ ∀ S1 : Hp, S1 = sR S 81 a0 0 (some a1) → kd S1 a0 = 6 ∧ ∀ S2 : Hp, S2 = sI S1 82 a0 0 x2 → kd S2 a0 = 6 ∧ ∀ S3 : Hp, S3 = sI S2 83 a0 0 x3 → Q S3
set_option maxHeartbeats 4000000 in
set_option maxRecDepth 100000 in
theorem c_X5_init (l : Launch) (z : Zt) (a0 : Nat) (a1 : Nat) (x2 : Int32) (x3 : Int32) (S : Hp) (Q : Hp → Prop) (hw : wp_X5_init a0 a1 x2 x3 S Q) : Ct l z yX5_init cX5_init 4 none 1 20 0 0 [.ref (a0), .ref (a1), .int (x2), .int (x3)] S (wV Q) := by
  refine Ct_of (by decide) (Nat.le_of_ble_eq_true rfl) ?_
  intro p e s m args below meth c C
  have C : Cx p s m args meth c z cX5_init 4 RX5 none "<init>" := C
  refine G_sub (lv' := [(0, .ref (a0)), (1, .ref (a1)), (2, .int (x2)), (3, .int (x3))]) [0, 1, 2, 3] rfl ?_
  refine G_aload_n (pc := 0) C 0 dX5_init_0 rfl rfl ?_
  refine G_objInit (pc := 1) C oi_RX5_1 (by decide) (by decide) dX5_init_1 ?_
  refine G_aload_n (pc := 4) C 0 dX5_init_4 rfl rfl ?_
  refine G_aload_n (pc := 5) C 1 dX5_init_5 rfl rfl ?_
  obtain ⟨hk, hw⟩ := hw
  refine pf_RX5_7 (pc := 6) C rfl (v := some a1) dX5_init_6 hk ?_
  obtain ⟨S1, hS1⟩ : ∃ y : Hp, y = sR S 81 a0 0 (some a1) := ⟨_, rfl⟩
  have hw := hw S1 hS1
  rw [← hS1]
  clear hS1
  refine G_aload_n (pc := 9) C 0 dX5_init_9 rfl rfl ?_
  refine G_iload_n (pc := 10) C 2 dX5_init_10 rfl rfl ?_
  obtain ⟨hk, hw⟩ := hw
  refine pf_RX5_13 (pc := 11) C rfl dX5_init_11 hk ?_
  obtain ⟨S2, hS2⟩ : ∃ y : Hp, y = sI S1 82 a0 0 x2 := ⟨_, rfl⟩
  have hw := hw S2 hS2
  rw [← hS2]
  clear hS2
  refine G_aload_n (pc := 14) C 0 dX5_init_14 rfl rfl ?_
  refine G_iload_n (pc := 15) C 3 dX5_init_15 rfl rfl ?_
  obtain ⟨hk, hw⟩ := hw
  refine pf_RX5_17 (pc := 16) C rfl dX5_init_16 hk ?_
  obtain ⟨S3, hS3⟩ : ∃ y : Hp, y = sI S2 83 a0 0 x3 := ⟨_, rfl⟩
  have hw := hw S3 hS3
  rw [← hS3]
  clear hS3
  exact G_vret (pc := 19) C rfl dX5_init_19 ⟨rfl, hw⟩
/-! FirstParts$Part.hasLetter(I)Z -/
abbrev wp_X5_hasLetter (a0 : Nat) (x1 : Int32) (S : Hp) (Q : Int32 → Prop) : Prop :=
  kd S a0 = 6 ∧ ∃ b1, (gR S 81 a0 0) = some b1 ∧ kd S b1 = 20 ∧ wp_X11_within (x1) ((0 : Int32)) (((Int32.ofNat (ln S b1)) - (1 : Int32))) S (fun e2 => (e2 = 0 ∨ e2 = 1) ∧ Q e2)
set_option maxHeartbeats 4000000 in
set_option maxRecDepth 100000 in
theorem c_X5_hasLetter (l : Launch) (z : Zt) (a0 : Nat) (x1 : Int32) (S : Hp) (Q : Int32 → Prop) (hw : wp_X5_hasLetter a0 x1 S Q) : Ct l z yX5_hasLetter cX5_hasLetter 2 (some .boolean) 1 22 0 0 [.ref (a0), .int (x1)] S (pI S Q) := by
  refine Ct_of (by decide) (Nat.le_of_ble_eq_true rfl) ?_
  intro p e s m args below meth c C
  have C : Cx p s m args meth c z cX5_hasLetter 2 RX5 (some .boolean) "hasLetter" := C
  refine G_sub (lv' := [(0, .ref (a0)), (1, .int (x1))]) [0, 1] rfl ?_
  refine G_iload_n (pc := 0) C 1 dX5_hasLetter_0 rfl rfl ?_
  refine G_iconst (pc := 1) C (v := 0) dX5_hasLetter_1 (by decide) ?_
  refine G_aload_n (pc := 2) C 0 dX5_hasLetter_2 rfl rfl ?_
  obtain ⟨hk, hw⟩ := hw
  refine gf_RX5_7 (pc := 3) C dX5_hasLetter_3 hk ?_
  obtain ⟨b1, hq, hw⟩ := hw
  rw [hq]
  obtain ⟨hk, hw⟩ := hw
  refine G_alenI (pc := 6) C hk dX5_hasLetter_6 ?_
  refine G_iconst (pc := 7) C (v := 1) dX5_hasLetter_7 (by decide) ?_
  refine G_isub (pc := 8) C dX5_hasLetter_8 ?_
  refine cl_RX5_20 (pc := 9) C (c_X11_within l z (x1) ((0 : Int32)) (((Int32.ofNat (ln S b1)) - (1 : Int32))) S _ hw) ⟨Nat.le_of_ble_eq_true rfl, Nat.le_of_ble_eq_true rfl⟩ dX5_hasLetter_9 (Nat.le_of_ble_eq_true rfl) (fun v S' hp => ?_)
  clear hw
  obtain ⟨hS, e2, rfl, hw⟩ := hp
  subst S'
  obtain ⟨hb, hw⟩ := hw
  exact G_zret (pc := 12) C rfl hb dX5_hasLetter_12 ⟨rfl, _, rfl, hw⟩
/-! FirstParts$Part.stripes()I -/
abbrev wp_X5_stripes (a0 : Nat) (S : Hp) (Q : Int32 → Prop) : Prop :=
  kd S a0 = 6 ∧ ∃ b1, (gR S 81 a0 0) = some b1 ∧ kd S b1 = 20 ∧ kd S a0 = 6 ∧ wp_X11_stripesFor ((Int32.ofNat (ln S b1))) ((gI S 82 a0 0)) S (fun e2 => Q e2)
set_option maxHeartbeats 4000000 in
set_option maxRecDepth 100000 in
theorem c_X5_stripes (l : Launch) (z : Zt) (a0 : Nat) (S : Hp) (Q : Int32 → Prop) (hw : wp_X5_stripes a0 S Q) : Ct l z yX5_stripes cX5_stripes 1 (some .int) 1 21 0 0 [.ref (a0)] S (pI S Q) := by
  refine Ct_of (by decide) (Nat.le_of_ble_eq_true rfl) ?_
  intro p e s m args below meth c C
  have C : Cx p s m args meth c z cX5_stripes 1 RX5 (some .int) "stripes" := C
  refine G_sub (lv' := [(0, .ref (a0))]) [0] rfl ?_
  refine G_aload_n (pc := 0) C 0 dX5_stripes_0 rfl rfl ?_
  obtain ⟨hk, hw⟩ := hw
  refine gf_RX5_7 (pc := 1) C dX5_stripes_1 hk ?_
  obtain ⟨b1, hq, hw⟩ := hw
  rw [hq]
  obtain ⟨hk, hw⟩ := hw
  refine G_alenI (pc := 4) C hk dX5_stripes_4 ?_
  refine G_aload_n (pc := 5) C 0 dX5_stripes_5 rfl rfl ?_
  obtain ⟨hk, hw⟩ := hw
  refine gf_RX5_13 (pc := 6) C dX5_stripes_6 hk ?_
  refine cl_RX5_26 (pc := 9) C (c_X11_stripesFor l z ((Int32.ofNat (ln S b1))) ((gI S 82 a0 0)) S _ hw) ⟨Nat.le_of_ble_eq_true rfl, Nat.le_of_ble_eq_true rfl⟩ dX5_stripes_9 (Nat.le_of_ble_eq_true rfl) (fun v S' hp => ?_)
  clear hw
  obtain ⟨hS, e2, rfl, hw⟩ := hp
  subst S'
  exact G_iret (pc := 12) C rfl dX5_stripes_12 ⟨rfl, _, rfl, hw⟩
/-! FirstParts$Part.stripeOf(I)I -/
abbrev wp_X5_stripeOf_18  (Q : Int32 → Prop) (s0 : Int32) (S : Hp) : Prop :=
  Q s0
abbrev wp_X5_stripeOf (a0 : Nat) (x1 : Int32) (S : Hp) (Q : Int32 → Prop) : Prop :=
  kd S a0 = 6 ∧ (((1 : Int32) ≤ (gI S 82 a0 0) → kd S a0 = 6 ∧ ¬ (gI S 82 a0 0) = 0 ∧ wp_X5_stripeOf_18 Q ((x1 / (gI S 82 a0 0))) (S)) ∧ (¬ (1 : Int32) ≤ (gI S 82 a0 0) → wp_X5_stripeOf_18 Q ((0 : Int32)) (S)))
set_option maxHeartbeats 4000000 in
set_option maxRecDepth 100000 in
theorem g_X5_stripeOf_18 (C : Cx p s m args meth c z cX5_stripeOf 2 RX5 (some .int) "stripeOf")  {Q : Int32 → Prop} {s0 : Int32} {S : Hp}   (hw : wp_X5_stripeOf_18  Q s0 S) : Go p l e { frames := 0, cells := 0, slots := 0, locals := 0 } s m args below meth c z 2 (MQ below (Qx z (pI S Q)) args s 0 0 (own z)) (0) (0) 18 [] [.int (s0)] (S) := by
  exact G_iret (pc := 18) C rfl dX5_stripeOf_18 ⟨rfl, _, rfl, hw⟩
set_option maxHeartbeats 4000000 in
set_option maxRecDepth 100000 in
theorem c_X5_stripeOf (l : Launch) (z : Zt) (a0 : Nat) (x1 : Int32) (S : Hp) (Q : Int32 → Prop) (hw : wp_X5_stripeOf a0 x1 S Q) : Ct l z yX5_stripeOf cX5_stripeOf 2 (some .int) 0 0 0 0 [.ref (a0), .int (x1)] S (pI S Q) := by
  refine Ct_of (by decide) (Nat.le_of_ble_eq_true rfl) ?_
  intro p e s m args below meth c C
  have C : Cx p s m args meth c z cX5_stripeOf 2 RX5 (some .int) "stripeOf" := C
  refine G_sub (lv' := [(0, .ref (a0)), (1, .int (x1))]) [0, 1] rfl ?_
  refine G_aload_n (pc := 0) C 0 dX5_stripeOf_0 rfl rfl ?_
  obtain ⟨hk, hw⟩ := hw
  refine gf_RX5_13 (pc := 1) C dX5_stripeOf_1 hk ?_
  refine G_iconst (pc := 4) C (v := 1) dX5_stripeOf_4 (by decide) ?_
  refine G_icmp_ge (pc := 5) C 12 dX5_stripeOf_5 (by decide) (fun hc => ?_) (fun hc => ?_)
  · have hw := hw.1 hc
    refine G_iload_n (pc := 12) C 1 dX5_stripeOf_12 rfl rfl ?_
    refine G_aload_n (pc := 13) C 0 dX5_stripeOf_13 rfl rfl ?_
    obtain ⟨hk, hw⟩ := hw
    refine gf_RX5_13 (pc := 14) C dX5_stripeOf_14 hk ?_
    obtain ⟨h0, hw⟩ := hw
    refine G_idiv (pc := 17) C dX5_stripeOf_17 h0 ?_
    exact G_sub [] rfl (g_X5_stripeOf_18 C  hw)
  · have hw := hw.2 hc
    refine G_iconst (pc := 8) C (v := 0) dX5_stripeOf_8 (by decide) ?_
    refine G_goto (pc := 9) C 18 dX5_stripeOf_9 (by decide) ?_
    exact G_sub [] rfl (g_X5_stripeOf_18 C  hw)
/-! FirstParts$Part.placeInStripe(I)I -/
abbrev wp_X5_placeInStripe_18  (Q : Int32 → Prop) (s0 : Int32) (S : Hp) : Prop :=
  Q s0
abbrev wp_X5_placeInStripe (a0 : Nat) (x1 : Int32) (S : Hp) (Q : Int32 → Prop) : Prop :=
  kd S a0 = 6 ∧ (((1 : Int32) ≤ (gI S 82 a0 0) → kd S a0 = 6 ∧ ¬ (gI S 82 a0 0) = 0 ∧ wp_X5_placeInStripe_18 Q ((x1 - x1 / (gI S 82 a0 0) * (gI S 82 a0 0))) (S)) ∧ (¬ (1 : Int32) ≤ (gI S 82 a0 0) → wp_X5_placeInStripe_18 Q ((0 : Int32)) (S)))
set_option maxHeartbeats 4000000 in
set_option maxRecDepth 100000 in
theorem g_X5_placeInStripe_18 (C : Cx p s m args meth c z cX5_placeInStripe 2 RX5 (some .int) "placeInStripe")  {Q : Int32 → Prop} {s0 : Int32} {S : Hp}   (hw : wp_X5_placeInStripe_18  Q s0 S) : Go p l e { frames := 0, cells := 0, slots := 0, locals := 0 } s m args below meth c z 2 (MQ below (Qx z (pI S Q)) args s 0 0 (own z)) (0) (0) 18 [] [.int (s0)] (S) := by
  exact G_iret (pc := 18) C rfl dX5_placeInStripe_18 ⟨rfl, _, rfl, hw⟩
set_option maxHeartbeats 4000000 in
set_option maxRecDepth 100000 in
theorem c_X5_placeInStripe (l : Launch) (z : Zt) (a0 : Nat) (x1 : Int32) (S : Hp) (Q : Int32 → Prop) (hw : wp_X5_placeInStripe a0 x1 S Q) : Ct l z yX5_placeInStripe cX5_placeInStripe 2 (some .int) 0 0 0 0 [.ref (a0), .int (x1)] S (pI S Q) := by
  refine Ct_of (by decide) (Nat.le_of_ble_eq_true rfl) ?_
  intro p e s m args below meth c C
  have C : Cx p s m args meth c z cX5_placeInStripe 2 RX5 (some .int) "placeInStripe" := C
  refine G_sub (lv' := [(0, .ref (a0)), (1, .int (x1))]) [0, 1] rfl ?_
  refine G_aload_n (pc := 0) C 0 dX5_placeInStripe_0 rfl rfl ?_
  obtain ⟨hk, hw⟩ := hw
  refine gf_RX5_13 (pc := 1) C dX5_placeInStripe_1 hk ?_
  refine G_iconst (pc := 4) C (v := 1) dX5_placeInStripe_4 (by decide) ?_
  refine G_icmp_ge (pc := 5) C 12 dX5_placeInStripe_5 (by decide) (fun hc => ?_) (fun hc => ?_)
  · have hw := hw.1 hc
    refine G_iload_n (pc := 12) C 1 dX5_placeInStripe_12 rfl rfl ?_
    refine G_aload_n (pc := 13) C 0 dX5_placeInStripe_13 rfl rfl ?_
    obtain ⟨hk, hw⟩ := hw
    refine gf_RX5_13 (pc := 14) C dX5_placeInStripe_14 hk ?_
    obtain ⟨h0, hw⟩ := hw
    refine G_irem (pc := 17) C dX5_placeInStripe_17 h0 ?_
    exact G_sub [] rfl (g_X5_placeInStripe_18 C  hw)
  · have hw := hw.2 hc
    refine G_iconst (pc := 8) C (v := 0) dX5_placeInStripe_8 (by decide) ?_
    refine G_goto (pc := 9) C 18 dX5_placeInStripe_9 (by decide) ?_
    exact G_sub [] rfl (g_X5_placeInStripe_18 C  hw)
/-! FirstParts$Packet.<init>(I)V -/
abbrev wp_X4_init (a0 : Nat) (x1 : Int32) (S : Hp) (Q : Hp → Prop) : Prop :=
  1 ≤ 2 ∧ 40 ≤ 80 ∧ ∀ n1 : Nat, n1 = sz S → ∀ S2 : Hp, S2 = nw S 20 (40) → kd S2 a0 = 5 ∧ ∀ S3 : Hp, S3 = sR S2 65 a0 0 (some n1) → 1 ≤ (2 - 1) ∧ 40 ≤ (80 - 40) ∧ ∀ n4 : Nat, n4 = sz S3 → ∀ S5 : Hp, S5 = nw S3 20 (40) → kd S5 a0 = 5 ∧ ∀ S6 : Hp, S6 = sR S5 66 a0 0 (some n4) → wp_J9_min_7cf53 (x1) ((40 : Int32)) S6 (fun e7 => kd S6 a0 = 5 ∧ ∀ S9 : Hp, S9 = sI S6 67 a0 0 e7 → kd S9 a0 = 5 ∧ ((0 : Int32) = 0 ∨ (0 : Int32) = 1) ∧ ∀ S10 : Hp, S10 = sI S9 68 a0 0 (0 : Int32) → Q S10)
set_option maxHeartbeats 4000000 in
set_option maxRecDepth 100000 in
theorem c_X4_init (l : Launch) (z : Zt) (a0 : Nat) (x1 : Int32) (S : Hp) (Q : Hp → Prop) (hw : wp_X4_init a0 x1 S Q) : Ct l z yX4_init cX4_init 2 none 1 21 2 80 [.ref (a0), .int (x1)] S (wV Q) := by
  refine Ct_of (by decide) (Nat.le_of_ble_eq_true rfl) ?_
  intro p e s m args below meth c C
  have C : Cx p s m args meth c z cX4_init 2 RX4 none "<init>" := C
  refine G_sub (lv' := [(0, .ref (a0)), (1, .int (x1))]) [0, 1] rfl ?_
  refine G_aload_n (pc := 0) C 0 dX4_init_0 rfl rfl ?_
  refine G_objInit (pc := 1) C oi_RX4_3 (by decide) (by decide) dX4_init_1 ?_
  refine G_aload_n (pc := 4) C 0 dX4_init_4 rfl rfl ?_
  refine G_bipush (pc := 5) C (v := 40) dX4_init_5 (by decide) ?_
  obtain ⟨hb1, hb2, hw⟩ := hw
  refine G_less (bc' := (2 - 1) + 1) (bs' := (80 - 40) + 40) (by omega) (by omega) ?_
  refine G_newa (pc := 7) C (n := (40 : Int32)) 40 w_aI (by decide) (by decide) (by decide) dX4_init_7 ?_
  obtain ⟨n1, hn1⟩ : ∃ y : Nat, y = sz S := ⟨_, rfl⟩
  obtain ⟨S2, hS2⟩ : ∃ y : Hp, y = nw S 20 (40) := ⟨_, rfl⟩
  have hw := hw n1 hn1 S2 hS2
  rw [← hn1]
  rw [← hS2]
  clear hn1 hS2
  obtain ⟨hk, hw⟩ := hw
  refine pf_RX4_9 (pc := 9) C rfl (v := some n1) dX4_init_9 hk ?_
  obtain ⟨S3, hS3⟩ : ∃ y : Hp, y = sR S2 65 a0 0 (some n1) := ⟨_, rfl⟩
  have hw := hw S3 hS3
  rw [← hS3]
  clear hS3
  refine G_aload_n (pc := 12) C 0 dX4_init_12 rfl rfl ?_
  refine G_bipush (pc := 13) C (v := 40) dX4_init_13 (by decide) ?_
  obtain ⟨hb1, hb2, hw⟩ := hw
  refine G_less (bc' := ((2 - 1) - 1) + 1) (bs' := ((80 - 40) - 40) + 40) (by omega) (by omega) ?_
  refine G_newa (pc := 15) C (n := (40 : Int32)) 40 w_aI (by decide) (by decide) (by decide) dX4_init_15 ?_
  obtain ⟨n4, hn4⟩ : ∃ y : Nat, y = sz S3 := ⟨_, rfl⟩
  obtain ⟨S5, hS5⟩ : ∃ y : Hp, y = nw S3 20 (40) := ⟨_, rfl⟩
  have hw := hw n4 hn4 S5 hS5
  rw [← hn4]
  rw [← hS5]
  clear hn4 hS5
  obtain ⟨hk, hw⟩ := hw
  refine pf_RX4_15 (pc := 17) C rfl (v := some n4) dX4_init_17 hk ?_
  obtain ⟨S6, hS6⟩ : ∃ y : Hp, y = sR S5 66 a0 0 (some n4) := ⟨_, rfl⟩
  have hw := hw S6 hS6
  rw [← hS6]
  clear hS6
  refine G_aload_n (pc := 20) C 0 dX4_init_20 rfl rfl ?_
  refine G_iload_n (pc := 21) C 1 dX4_init_21 rfl rfl ?_
  refine G_bipush (pc := 22) C (v := 40) dX4_init_22 (by decide) ?_
  refine cl_RX4_18 (pc := 24) C (c_J9_min_7cf53 l z (x1) ((40 : Int32)) S6 _ hw) ⟨Nat.le_of_ble_eq_true rfl, Nat.le_of_ble_eq_true rfl⟩ dX4_init_24 (Nat.le_of_ble_eq_true rfl) (fun v S' hp => ?_)
  clear hw
  obtain ⟨hS, e7, rfl, hw⟩ := hp
  subst S'
  obtain ⟨hk, hw⟩ := hw
  refine pf_RX4_24 (pc := 27) C dX4_init_27 hk ?_
  obtain ⟨S9, hS9⟩ : ∃ y : Hp, y = sI S6 67 a0 0 e7 := ⟨_, rfl⟩
  have hw := hw S9 hS9
  rw [← hS9]
  clear hS9
  refine G_aload_n (pc := 30) C 0 dX4_init_30 rfl rfl ?_
  refine G_iconst (pc := 31) C (v := 0) dX4_init_31 (by decide) ?_
  obtain ⟨hk, hw⟩ := hw
  obtain ⟨hb, hw⟩ := hw
  refine pf_RX4_28 (pc := 32) C dX4_init_32 hk hb ?_
  obtain ⟨S10, hS10⟩ : ∃ y : Hp, y = sI S9 68 a0 0 (0 : Int32) := ⟨_, rfl⟩
  have hw := hw S10 hS10
  rw [← hS10]
  clear hS10
  exact G_vret (pc := 35) C rfl dX4_init_35 ⟨rfl, hw⟩
/-! FirstParts$Packet.put(II)V -/
abbrev wp_X4_put_24  (Q : Hp → Prop)  (S : Hp) : Prop :=
  Q S
abbrev wp_X4_put (a0 : Nat) (x1 : Int32) (x2 : Int32) (S : Hp) (Q : Hp → Prop) : Prop :=
  wp_X11_within (x1) ((0 : Int32)) ((39 : Int32)) S (fun e1 => ((e1 = 0 → wp_X4_put_24 Q (S)) ∧ (¬ e1 = 0 → kd S a0 = 5 ∧ ∃ b3, (gR S 65 a0 0) = some b3 ∧ kd S b3 = 20 ∧ vp_in x1 (ln S b3) ∧ ∀ S4 : Hp, S4 = sI S 0 b3 (x1).toNatClampNeg x2 → kd S4 a0 = 5 ∧ ∃ b5, (gR S4 66 a0 0) = some b5 ∧ kd S4 b5 = 20 ∧ vp_in x1 (ln S4 b5) ∧ ∀ S6 : Hp, S6 = sI S4 0 b5 (x1).toNatClampNeg x2 → wp_X4_put_24 Q (S6))))
set_option maxHeartbeats 4000000 in
set_option maxRecDepth 100000 in
theorem g_X4_put_24 (C : Cx p s m args meth c z cX4_put 3 RX4 none "put")  {Q : Hp → Prop}  {S : Hp}   (hw : wp_X4_put_24  Q  S) : Go p l e { frames := 1, cells := 0, slots := 0, locals := 22 } s m args below meth c z 3 (MQ below (Qx z (wV Q)) args s 0 0 (own z)) (0) (0) 24 [] [] (S) := by
  exact G_vret (pc := 24) C rfl dX4_put_24 ⟨rfl, hw⟩
set_option maxHeartbeats 4000000 in
set_option maxRecDepth 100000 in
theorem c_X4_put (l : Launch) (z : Zt) (a0 : Nat) (x1 : Int32) (x2 : Int32) (S : Hp) (Q : Hp → Prop) (hw : wp_X4_put a0 x1 x2 S Q) : Ct l z yX4_put cX4_put 3 none 1 22 0 0 [.ref (a0), .int (x1), .int (x2)] S (wV Q) := by
  refine Ct_of (by decide) (Nat.le_of_ble_eq_true rfl) ?_
  intro p e s m args below meth c C
  have C : Cx p s m args meth c z cX4_put 3 RX4 none "put" := C
  refine G_sub (lv' := [(0, .ref (a0)), (1, .int (x1)), (2, .int (x2))]) [0, 1, 2] rfl ?_
  refine G_iload_n (pc := 0) C 1 dX4_put_0 rfl rfl ?_
  refine G_iconst (pc := 1) C (v := 0) dX4_put_1 (by decide) ?_
  refine G_bipush (pc := 2) C (v := 39) dX4_put_2 (by decide) ?_
  refine cl_RX4_32 (pc := 4) C (c_X11_within l z (x1) ((0 : Int32)) ((39 : Int32)) S _ hw) ⟨Nat.le_of_ble_eq_true rfl, Nat.le_of_ble_eq_true rfl⟩ dX4_put_4 (Nat.le_of_ble_eq_true rfl) (fun v S' hp => ?_)
  clear hw
  obtain ⟨hS, e1, rfl, hw⟩ := hp
  subst S'
  refine G_if_eq (pc := 7) C 24 dX4_put_7 (by decide) (fun hc => ?_) (fun hc => ?_)
  · have hw := hw.1 hc
    exact G_sub [] rfl (g_X4_put_24 C  hw)
  · have hw := hw.2 hc
    refine G_aload_n (pc := 10) C 0 dX4_put_10 rfl rfl ?_
    obtain ⟨hk, hw⟩ := hw
    refine gf_RX4_9 (pc := 11) C dX4_put_11 hk ?_
    refine G_iload_n (pc := 14) C 1 dX4_put_14 rfl rfl ?_
    refine G_iload_n (pc := 15) C 2 dX4_put_15 rfl rfl ?_
    obtain ⟨b3, hq, hw⟩ := hw
    rw [hq]
    obtain ⟨hk, hi, hw⟩ := hw
    refine G_iast (pc := 16) C hk hi dX4_put_16 ?_
    obtain ⟨S4, hS4⟩ : ∃ y : Hp, y = sI S 0 b3 (x1).toNatClampNeg x2 := ⟨_, rfl⟩
    have hw := hw S4 hS4
    rw [← hS4]
    clear hS4
    refine G_aload_n (pc := 17) C 0 dX4_put_17 rfl rfl ?_
    obtain ⟨hk, hw⟩ := hw
    refine gf_RX4_15 (pc := 18) C dX4_put_18 hk ?_
    refine G_iload_n (pc := 21) C 1 dX4_put_21 rfl rfl ?_
    refine G_iload_n (pc := 22) C 2 dX4_put_22 rfl rfl ?_
    obtain ⟨b5, hq, hw⟩ := hw
    rw [hq]
    obtain ⟨hk, hi, hw⟩ := hw
    refine G_iast (pc := 23) C hk hi dX4_put_23 ?_
    obtain ⟨S6, hS6⟩ : ∃ y : Hp, y = sI S4 0 b5 (x1).toNatClampNeg x2 := ⟨_, rfl⟩
    have hw := hw S6 hS6
    rw [← hS6]
    clear hS6
    exact G_sub [] rfl (g_X4_put_24 C  hw)
/-! FirstParts$Packet.holds(I)Z -/
abbrev wp_X4_holds_26  (Q : Int32 → Prop) (s0 : Int32) (S : Hp) : Prop :=
  (s0 = 0 ∨ s0 = 1) ∧ Q s0
abbrev wp_X4_holds_25  (Q : Int32 → Prop)  (S : Hp) : Prop :=
  wp_X4_holds_26 Q ((0 : Int32)) (S)
abbrev wp_X4_holds (a0 : Nat) (x1 : Int32) (S : Hp) (Q : Int32 → Prop) : Prop :=
  kd S a0 = 5 ∧ (((gI S 68 a0 0) ≠ 0 → wp_X4_holds_25 Q (S)) ∧ ((gI S 68 a0 0) = 0 → kd S a0 = 5 ∧ wp_X11_within (x1) ((0 : Int32)) (((gI S 67 a0 0) - (1 : Int32))) S (fun e1 => ((e1 = 0 → wp_X4_holds_25 Q (S)) ∧ (¬ e1 = 0 → wp_X4_holds_26 Q ((1 : Int32)) (S))))))
set_option maxHeartbeats 4000000 in
set_option maxRecDepth 100000 in
theorem g_X4_holds_26 (C : Cx p s m args meth c z cX4_holds 2 RX4 (some .boolean) "holds")  {Q : Int32 → Prop} {s0 : Int32} {S : Hp}   (hw : wp_X4_holds_26  Q s0 S) : Go p l e { frames := 1, cells := 0, slots := 0, locals := 22 } s m args below meth c z 2 (MQ below (Qx z (pI S Q)) args s 0 0 (own z)) (0) (0) 26 [] [.int (s0)] (S) := by
  obtain ⟨hb, hw⟩ := hw
  exact G_zret (pc := 26) C rfl hb dX4_holds_26 ⟨rfl, _, rfl, hw⟩
set_option maxHeartbeats 4000000 in
set_option maxRecDepth 100000 in
theorem g_X4_holds_25 (C : Cx p s m args meth c z cX4_holds 2 RX4 (some .boolean) "holds")  {Q : Int32 → Prop}  {S : Hp}   (hw : wp_X4_holds_25  Q  S) : Go p l e { frames := 1, cells := 0, slots := 0, locals := 22 } s m args below meth c z 2 (MQ below (Qx z (pI S Q)) args s 0 0 (own z)) (0) (0) 25 [] [] (S) := by
  refine G_iconst (pc := 25) C (v := 0) dX4_holds_25 (by decide) ?_
  exact G_sub [] rfl (g_X4_holds_26 C  hw)
set_option maxHeartbeats 4000000 in
set_option maxRecDepth 100000 in
theorem c_X4_holds (l : Launch) (z : Zt) (a0 : Nat) (x1 : Int32) (S : Hp) (Q : Int32 → Prop) (hw : wp_X4_holds a0 x1 S Q) : Ct l z yX4_holds cX4_holds 2 (some .boolean) 1 22 0 0 [.ref (a0), .int (x1)] S (pI S Q) := by
  refine Ct_of (by decide) (Nat.le_of_ble_eq_true rfl) ?_
  intro p e s m args below meth c C
  have C : Cx p s m args meth c z cX4_holds 2 RX4 (some .boolean) "holds" := C
  refine G_sub (lv' := [(0, .ref (a0)), (1, .int (x1))]) [0, 1] rfl ?_
  refine G_aload_n (pc := 0) C 0 dX4_holds_0 rfl rfl ?_
  obtain ⟨hk, hw⟩ := hw
  refine gf_RX4_28 (pc := 1) C dX4_holds_1 hk ?_
  refine G_if_ne (pc := 4) C 25 dX4_holds_4 (by decide) (fun hc => ?_) (fun hc => ?_)
  · have hw := hw.1 hc
    exact G_sub [] rfl (g_X4_holds_25 C  hw)
  · have hw := hw.2 hc
    refine G_iload_n (pc := 7) C 1 dX4_holds_7 rfl rfl ?_
    refine G_iconst (pc := 8) C (v := 0) dX4_holds_8 (by decide) ?_
    refine G_aload_n (pc := 9) C 0 dX4_holds_9 rfl rfl ?_
    obtain ⟨hk, hw⟩ := hw
    refine gf_RX4_24 (pc := 10) C dX4_holds_10 hk ?_
    refine G_iconst (pc := 13) C (v := 1) dX4_holds_13 (by decide) ?_
    refine G_isub (pc := 14) C dX4_holds_14 ?_
    refine cl_RX4_32 (pc := 15) C (c_X11_within l z (x1) ((0 : Int32)) (((gI S 67 a0 0) - (1 : Int32))) S _ hw) ⟨Nat.le_of_ble_eq_true rfl, Nat.le_of_ble_eq_true rfl⟩ dX4_holds_15 (Nat.le_of_ble_eq_true rfl) (fun v S' hp => ?_)
    clear hw
    obtain ⟨hS, e1, rfl, hw⟩ := hp
    subst S'
    refine G_if_eq (pc := 18) C 25 dX4_holds_18 (by decide) (fun hc => ?_) (fun hc => ?_)
    · have hw := hw.1 hc
      exact G_sub [] rfl (g_X4_holds_25 C  hw)
    · have hw := hw.2 hc
      refine G_iconst (pc := 21) C (v := 1) dX4_holds_21 (by decide) ?_
      refine G_goto (pc := 22) C 26 dX4_holds_22 (by decide) ?_
      exact G_sub [] rfl (g_X4_holds_26 C  hw)
/-! FirstParts$Packet.sendAgain(I)I -/
abbrev wp_X4_sendAgain_59  (Q : Int32 → Hp → Prop) (v0 : Nat) (v1 : Int32) (v2 : Int32) (S : Hp) : Prop :=
  wp_J9_min_7cf53 (v1) ((40 : Int32)) S (fun e1 => kd S v0 = 5 ∧ ∀ S3 : Hp, S3 = sI S 67 v0 0 e1 → kd S3 v0 = 5 ∧ ((0 : Int32) = 0 ∨ (0 : Int32) = 1) ∧ ∀ S4 : Hp, S4 = sI S3 68 v0 0 (0 : Int32) → Q v2 S4)
abbrev wp_X4_sendAgain_41 (K4 : Int32 → Int32 → Hp → Prop) (Q : Int32 → Hp → Prop) (v0 : Nat) (v1 : Int32) (v2 : Int32) (v3 : Int32) (S : Hp) : Prop :=
  kd S v0 = 5 ∧ kd S v0 = 5 ∧ ∃ b8, (gR S 65 v0 0) = some b8 ∧ kd S b8 = 20 ∧ vp_in v3 (ln S b8) ∧ ∃ b9, (gR S 66 v0 0) = some b9 ∧ kd S b9 = 20 ∧ vp_in v3 (ln S b9) ∧ ∀ S10 : Hp, S10 = sI S 0 b9 (v3).toNatClampNeg (gI S 0 b8 (v3).toNatClampNeg) → ∀ e11 : Int32, e11 = (v3 + 1) → K4 (v2) (e11) (S10)
abbrev wp_X4_sendAgain_38 (K4 : Int32 → Int32 → Hp → Prop) (Q : Int32 → Hp → Prop) (v0 : Nat) (v1 : Int32) (v2 : Int32) (v3 : Int32) (S : Hp) : Prop :=
  ∀ e7 : Int32, e7 = (v2 + 1) → wp_X4_sendAgain_41 K4 Q (v0) (v1) (e7) (v3) (S)
abbrev wb_X4_sendAgain_4  (K4 : Int32 → Int32 → Hp → Prop) (Q : Int32 → Hp → Prop) (v0 : Nat) (v1 : Int32) (v2 : Int32) (v3 : Int32) (S : Hp) : Prop :=
  ((v1 ≤ v3 → wp_X4_sendAgain_59 Q (v0) (v1) (v2) (S)) ∧ (¬ v1 ≤ v3 → (((40 : Int32) ≤ v3 → wp_X4_sendAgain_59 Q (v0) (v1) (v2) (S)) ∧ (¬ (40 : Int32) ≤ v3 → kd S v0 = 5 ∧ wp_X4_holds (v0) (v3) S (fun e5 => ((e5 = 0 → wp_X4_sendAgain_38 K4 Q (v0) (v1) (v2) (v3) (S)) ∧ (¬ e5 = 0 → kd S v0 = 5 ∧ ∃ b12, (gR S 66 v0 0) = some b12 ∧ kd S b12 = 20 ∧ vp_in v3 (ln S b12) ∧ kd S v0 = 5 ∧ ∃ b13, (gR S 65 v0 0) = some b13 ∧ kd S b13 = 20 ∧ vp_in v3 (ln S b13) ∧ (((gI S 0 b12 (v3).toNatClampNeg) = (gI S 0 b13 (v3).toNatClampNeg) → wp_X4_sendAgain_41 K4 Q (v0) (v1) (v2) (v3) (S)) ∧ (¬ (gI S 0 b12 (v3).toNatClampNeg) = (gI S 0 b13 (v3).toNatClampNeg) → wp_X4_sendAgain_38 K4 Q (v0) (v1) (v2) (v3) (S))))))))))
abbrev wp_X4_sendAgain_4  (Q : Int32 → Hp → Prop) (v0 : Nat) (v1 : Int32) (v2 : Int32) (v3 : Int32) (S : Hp) : Prop :=
  Lp (X := Int32 × Int32 × Hp) (fun K y => wb_X4_sendAgain_4  (fun w0 w1 w2 => K (w0, w1, w2)) Q v0 v1 y.1 y.2.1 y.2.2) (v2, v3, S)
abbrev wp_X4_sendAgain (a0 : Nat) (x1 : Int32) (S : Hp) (Q : Int32 → Hp → Prop) : Prop :=
  wp_X4_sendAgain_4 Q (a0) (x1) ((0 : Int32)) ((0 : Int32)) (S)
set_option maxHeartbeats 4000000 in
set_option maxRecDepth 100000 in
theorem g_X4_sendAgain_59 (C : Cx p s m args meth c z cX4_sendAgain 4 RX4 (some .int) "sendAgain")  {Q : Int32 → Hp → Prop} {v0 : Nat} {v1 : Int32} {v2 : Int32} {S : Hp}   (hw : wp_X4_sendAgain_59  Q v0 v1 v2 S) : Go p l e { frames := 2, cells := 0, slots := 0, locals := 43 } s m args below meth c z 4 (MQ below (Qx z (wI Q)) args s 0 0 (own z)) (0) (0) 59 [(0, .ref (v0)), (1, .int (v1)), (2, .int (v2))] [] (S) := by
  refine G_aload_n (pc := 59) C 0 dX4_sendAgain_59 rfl rfl ?_
  refine G_iload_n (pc := 60) C 1 dX4_sendAgain_60 rfl rfl ?_
  refine G_bipush (pc := 61) C (v := 40) dX4_sendAgain_61 (by decide) ?_
  refine cl_RX4_18 (pc := 63) C (c_J9_min_7cf53 l z (v1) ((40 : Int32)) S _ hw) ⟨Nat.le_of_ble_eq_true rfl, Nat.le_of_ble_eq_true rfl⟩ dX4_sendAgain_63 (Nat.le_of_ble_eq_true rfl) (fun v S' hp => ?_)
  clear hw
  obtain ⟨hS, e1, rfl, hw⟩ := hp
  subst S'
  obtain ⟨hk, hw⟩ := hw
  refine pf_RX4_24 (pc := 66) C dX4_sendAgain_66 hk ?_
  obtain ⟨S3, hS3⟩ : ∃ y : Hp, y = sI S 67 v0 0 e1 := ⟨_, rfl⟩
  have hw := hw S3 hS3
  rw [← hS3]
  clear hS3
  refine G_aload_n (pc := 69) C 0 dX4_sendAgain_69 rfl rfl ?_
  refine G_iconst (pc := 70) C (v := 0) dX4_sendAgain_70 (by decide) ?_
  obtain ⟨hk, hw⟩ := hw
  obtain ⟨hb, hw⟩ := hw
  refine pf_RX4_28 (pc := 71) C dX4_sendAgain_71 hk hb ?_
  obtain ⟨S4, hS4⟩ : ∃ y : Hp, y = sI S3 68 v0 0 (0 : Int32) := ⟨_, rfl⟩
  have hw := hw S4 hS4
  rw [← hS4]
  clear hS4
  refine G_iload_n (pc := 74) C 2 dX4_sendAgain_74 rfl rfl ?_
  exact G_iret (pc := 75) C rfl dX4_sendAgain_75 ⟨_, rfl, hw⟩
set_option maxHeartbeats 4000000 in
set_option maxRecDepth 100000 in
theorem g_X4_sendAgain_41 (C : Cx p s m args meth c z cX4_sendAgain 4 RX4 (some .int) "sendAgain") {K4 : Int32 → Int32 → Hp → Prop} {Q : Int32 → Hp → Prop} {v0 : Nat} {v1 : Int32} {v2 : Int32} {v3 : Int32} {S : Hp}  (hK4 : ∀ (w2 : Int32) (w3 : Int32) (S2 : Hp), K4 w2 w3 S2 → Go p l e { frames := 2, cells := 0, slots := 0, locals := 43 } s m args below meth c z 4 (MQ below (Qx z (wI Q)) args s 0 0 (own z)) (0) (0) 4 [(0, .ref (v0)), (1, .int (v1)), (2, .int (w2)), (3, .int (w3))] [] (S2)) (hw : wp_X4_sendAgain_41 K4 Q v0 v1 v2 v3 S) : Go p l e { frames := 2, cells := 0, slots := 0, locals := 43 } s m args below meth c z 4 (MQ below (Qx z (wI Q)) args s 0 0 (own z)) (0) (0) 41 [(0, .ref (v0)), (1, .int (v1)), (2, .int (v2)), (3, .int (v3))] [] (S) := by
  refine G_aload_n (pc := 41) C 0 dX4_sendAgain_41 rfl rfl ?_
  obtain ⟨hk, hw⟩ := hw
  refine gf_RX4_15 (pc := 42) C dX4_sendAgain_42 hk ?_
  refine G_iload_n (pc := 45) C 3 dX4_sendAgain_45 rfl rfl ?_
  refine G_aload_n (pc := 46) C 0 dX4_sendAgain_46 rfl rfl ?_
  obtain ⟨hk, hw⟩ := hw
  refine gf_RX4_9 (pc := 47) C dX4_sendAgain_47 hk ?_
  refine G_iload_n (pc := 50) C 3 dX4_sendAgain_50 rfl rfl ?_
  obtain ⟨b8, hq, hw⟩ := hw
  rw [hq]
  obtain ⟨hk, hi, hw⟩ := hw
  refine G_iald (pc := 51) C hk hi dX4_sendAgain_51 ?_
  obtain ⟨b9, hq, hw⟩ := hw
  rw [hq]
  obtain ⟨hk, hi, hw⟩ := hw
  refine G_iast (pc := 52) C hk hi dX4_sendAgain_52 ?_
  obtain ⟨S10, hS10⟩ : ∃ y : Hp, y = sI S 0 b9 (v3).toNatClampNeg (gI S 0 b8 (v3).toNatClampNeg) := ⟨_, rfl⟩
  have hw := hw S10 hS10
  rw [← hS10]
  clear hS10
  obtain ⟨e11, he11⟩ : ∃ y : Int32, y = (v3 + 1) := ⟨_, rfl⟩
  have hw := hw e11 he11
  refine G_iinc (pc := 53) C [(3, .int (e11)), (0, .ref (v0)), (1, .int (v1)), (2, .int (v2))] 3 (v := e11) dX4_sendAgain_53 rfl (by rw [he11]; rfl) (by decide) rfl ?_
  clear he11
  refine G_goto (pc := 56) C 4 dX4_sendAgain_56 (by decide) ?_
  exact G_sub [1, 2, 3, 0] rfl (hK4 _ _ _ hw)
set_option maxHeartbeats 4000000 in
set_option maxRecDepth 100000 in
theorem g_X4_sendAgain_38 (C : Cx p s m args meth c z cX4_sendAgain 4 RX4 (some .int) "sendAgain") {K4 : Int32 → Int32 → Hp → Prop} {Q : Int32 → Hp → Prop} {v0 : Nat} {v1 : Int32} {v2 : Int32} {v3 : Int32} {S : Hp}  (hK4 : ∀ (w2 : Int32) (w3 : Int32) (S2 : Hp), K4 w2 w3 S2 → Go p l e { frames := 2, cells := 0, slots := 0, locals := 43 } s m args below meth c z 4 (MQ below (Qx z (wI Q)) args s 0 0 (own z)) (0) (0) 4 [(0, .ref (v0)), (1, .int (v1)), (2, .int (w2)), (3, .int (w3))] [] (S2)) (hw : wp_X4_sendAgain_38 K4 Q v0 v1 v2 v3 S) : Go p l e { frames := 2, cells := 0, slots := 0, locals := 43 } s m args below meth c z 4 (MQ below (Qx z (wI Q)) args s 0 0 (own z)) (0) (0) 38 [(0, .ref (v0)), (1, .int (v1)), (2, .int (v2)), (3, .int (v3))] [] (S) := by
  obtain ⟨e7, he7⟩ : ∃ y : Int32, y = (v2 + 1) := ⟨_, rfl⟩
  have hw := hw e7 he7
  refine G_iinc (pc := 38) C [(2, .int (e7)), (0, .ref (v0)), (1, .int (v1)), (3, .int (v3))] 2 (v := e7) dX4_sendAgain_38 rfl (by rw [he7]; rfl) (by decide) rfl ?_
  clear he7
  exact G_sub [1, 2, 0, 3] rfl (g_X4_sendAgain_41 C hK4 hw)
set_option maxHeartbeats 4000000 in
set_option maxRecDepth 100000 in
theorem gb_X4_sendAgain_4 (C : Cx p s m args meth c z cX4_sendAgain 4 RX4 (some .int) "sendAgain") {K4 : Int32 → Int32 → Hp → Prop} {Q : Int32 → Hp → Prop} {v0 : Nat} {v1 : Int32} {v2 : Int32} {v3 : Int32} {S : Hp}  (hK4 : ∀ (w2 : Int32) (w3 : Int32) (S2 : Hp), K4 w2 w3 S2 → Go p l e { frames := 2, cells := 0, slots := 0, locals := 43 } s m args below meth c z 4 (MQ below (Qx z (wI Q)) args s 0 0 (own z)) (0) (0) 4 [(0, .ref (v0)), (1, .int (v1)), (2, .int (w2)), (3, .int (w3))] [] (S2)) (hw : wb_X4_sendAgain_4  K4 Q v0 v1 v2 v3 S) : Go p l e { frames := 2, cells := 0, slots := 0, locals := 43 } s m args below meth c z 4 (MQ below (Qx z (wI Q)) args s 0 0 (own z)) (0) (0) 4 [(0, .ref (v0)), (1, .int (v1)), (2, .int (v2)), (3, .int (v3))] [] (S) := by
  refine G_iload_n (pc := 4) C 3 dX4_sendAgain_4 rfl rfl ?_
  refine G_iload_n (pc := 5) C 1 dX4_sendAgain_5 rfl rfl ?_
  refine G_icmp_ge (pc := 6) C 59 dX4_sendAgain_6 (by decide) (fun hc => ?_) (fun hc => ?_)
  · have hw := hw.1 hc
    exact G_sub [0, 1, 2] rfl (g_X4_sendAgain_59 C  hw)
  · have hw := hw.2 hc
    refine G_iload_n (pc := 9) C 3 dX4_sendAgain_9 rfl rfl ?_
    refine G_bipush (pc := 10) C (v := 40) dX4_sendAgain_10 (by decide) ?_
    refine G_icmp_ge (pc := 12) C 59 dX4_sendAgain_12 (by decide) (fun hc => ?_) (fun hc => ?_)
    · have hw := hw.1 hc
      exact G_sub [0, 1, 2] rfl (g_X4_sendAgain_59 C  hw)
    · have hw := hw.2 hc
      refine G_aload_n (pc := 15) C 0 dX4_sendAgain_15 rfl rfl ?_
      refine G_iload_n (pc := 16) C 3 dX4_sendAgain_16 rfl rfl ?_
      obtain ⟨hk, hw⟩ := hw
      refine cl_RX4_36 (pc := 17) C (c_X4_holds l z (v0) (v3) S _ hw) ⟨Nat.le_of_ble_eq_true rfl, Nat.le_of_ble_eq_true rfl⟩ hk dX4_sendAgain_17 (Nat.le_of_ble_eq_true rfl) (fun v S' hp => ?_)
      clear hw
      obtain ⟨hS, e5, rfl, hw⟩ := hp
      subst S'
      refine G_if_eq (pc := 20) C 38 dX4_sendAgain_20 (by decide) (fun hc => ?_) (fun hc => ?_)
      · have hw := hw.1 hc
        exact G_sub [0, 1, 2, 3] rfl (g_X4_sendAgain_38 C hK4 hw)
      · have hw := hw.2 hc
        refine G_aload_n (pc := 23) C 0 dX4_sendAgain_23 rfl rfl ?_
        obtain ⟨hk, hw⟩ := hw
        refine gf_RX4_15 (pc := 24) C dX4_sendAgain_24 hk ?_
        refine G_iload_n (pc := 27) C 3 dX4_sendAgain_27 rfl rfl ?_
        obtain ⟨b12, hq, hw⟩ := hw
        rw [hq]
        obtain ⟨hk, hi, hw⟩ := hw
        refine G_iald (pc := 28) C hk hi dX4_sendAgain_28 ?_
        refine G_aload_n (pc := 29) C 0 dX4_sendAgain_29 rfl rfl ?_
        obtain ⟨hk, hw⟩ := hw
        refine gf_RX4_9 (pc := 30) C dX4_sendAgain_30 hk ?_
        refine G_iload_n (pc := 33) C 3 dX4_sendAgain_33 rfl rfl ?_
        obtain ⟨b13, hq, hw⟩ := hw
        rw [hq]
        obtain ⟨hk, hi, hw⟩ := hw
        refine G_iald (pc := 34) C hk hi dX4_sendAgain_34 ?_
        refine G_icmp_eq (pc := 35) C 41 dX4_sendAgain_35 (by decide) (fun hc => ?_) (fun hc => ?_)
        · have hw := hw.1 hc
          exact G_sub [0, 1, 2, 3] rfl (g_X4_sendAgain_41 C hK4 hw)
        · have hw := hw.2 hc
          exact G_sub [0, 1, 2, 3] rfl (g_X4_sendAgain_38 C hK4 hw)
set_option maxHeartbeats 4000000 in
set_option maxRecDepth 100000 in
theorem g_X4_sendAgain_4 (C : Cx p s m args meth c z cX4_sendAgain 4 RX4 (some .int) "sendAgain")  {Q : Int32 → Hp → Prop} {v0 : Nat} {v1 : Int32} {v2 : Int32} {v3 : Int32} {S : Hp}   (hw : wp_X4_sendAgain_4  Q v0 v1 v2 v3 S) : Go p l e { frames := 2, cells := 0, slots := 0, locals := 43 } s m args below meth c z 4 (MQ below (Qx z (wI Q)) args s 0 0 (own z)) (0) (0) 4 [(0, .ref (v0)), (1, .int (v1)), (2, .int (v2)), (3, .int (v3))] [] (S) :=
  Lp_go (G := fun y : Int32 × Int32 × Hp => Go p l e { frames := 2, cells := 0, slots := 0, locals := 43 } s m args below meth c z 4 (MQ below (Qx z (wI Q)) args s 0 0 (own z)) (0) (0) 4 [(0, .ref (v0)), (1, .int (v1)), (2, .int (y.1)), (3, .int (y.2.1))] [] (y.2.2)) (fun K y hK hB => gb_X4_sendAgain_4 C  (fun w0 w1 w2 h => hK (w0, w1, w2) h) hB) hw
set_option maxHeartbeats 4000000 in
set_option maxRecDepth 100000 in
theorem c_X4_sendAgain (l : Launch) (z : Zt) (a0 : Nat) (x1 : Int32) (S : Hp) (Q : Int32 → Hp → Prop) (hw : wp_X4_sendAgain a0 x1 S Q) : Ct l z yX4_sendAgain cX4_sendAgain 4 (some .int) 2 43 0 0 [.ref (a0), .int (x1)] S (wI Q) := by
  refine Ct_of (by decide) (Nat.le_of_ble_eq_true rfl) ?_
  intro p e s m args below meth c C
  have C : Cx p s m args meth c z cX4_sendAgain 4 RX4 (some .int) "sendAgain" := C
  refine G_sub (lv' := [(0, .ref (a0)), (1, .int (x1))]) [0, 1] rfl ?_
  refine G_iconst (pc := 0) C (v := 0) dX4_sendAgain_0 (by decide) ?_
  refine G_istore_n (pc := 1) C [(2, .int ((0 : Int32))), (0, .ref (a0)), (1, .int (x1))] dX4_sendAgain_1 rfl (by decide) rfl ?_
  refine G_iconst (pc := 2) C (v := 0) dX4_sendAgain_2 (by decide) ?_
  refine G_istore_n (pc := 3) C [(3, .int ((0 : Int32))), (2, .int ((0 : Int32))), (0, .ref (a0)), (1, .int (x1))] dX4_sendAgain_3 rfl (by decide) rfl ?_
  exact G_sub [2, 3, 1, 0] rfl (g_X4_sendAgain_4 C  hw)
/-! FirstParts$Clause.<init>()V -/
abbrev wp_X0_init (a0 : Nat) (S : Hp) (Q : Hp → Prop) : Prop :=
  Q S
set_option maxHeartbeats 4000000 in
set_option maxRecDepth 100000 in
theorem c_X0_init (l : Launch) (z : Zt) (a0 : Nat) (S : Hp) (Q : Hp → Prop) (hw : wp_X0_init a0 S Q) : Ct l z yX0_init cX0_init 1 none 1 20 0 0 [.ref (a0)] S (wV Q) := by
  refine Ct_of (by decide) (Nat.le_of_ble_eq_true rfl) ?_
  intro p e s m args below meth c C
  have C : Cx p s m args meth c z cX0_init 1 RX0 none "<init>" := C
  refine G_sub (lv' := [(0, .ref (a0))]) [0] rfl ?_
  refine G_aload_n (pc := 0) C 0 dX0_init_0 rfl rfl ?_
  refine G_objInit (pc := 1) C oi_RX0_1 (by decide) (by decide) dX0_init_1 ?_
  exact G_vret (pc := 4) C rfl dX0_init_4 ⟨rfl, hw⟩
end W11partleantxt
