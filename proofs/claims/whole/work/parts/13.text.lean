section W13textleantxt
variable {p : Program} {l : Launch} {e : Env} {R : Room} {s : State} {m : MethodId} {args : Array Value} {below : List Frame} {meth : Method} {c : Code} {z : Zt} {cc : ByteArray} {nL : Nat} {ow : String} {ret : Option FieldType} {nm : String} {Q : State → Prop} {bc bs pc : Nat} {lv : List (Nat × Value)} {st : List Value} {S : Hp}
theorem oi_RX10_3 : Cond.methodLink RX10 3 Lib.objectInit ∈ gt := gt_t 34 (by decide +kernel) rfl
theorem pf_RX10_9 (C : Cx p s m args meth c z cc nL RX10 ret nm) {a : Nat} {v : Option Nat} (hfn : nm = "<init>") (hd : decode cc pc = .ok (.putfield 9, 3)) (hk : kd S a = 11) (k : Go p l e R s m args below meth c z nL Q bc bs (pc + 3) lv st (sR S 161 a 0 v)) : Go p l e R s m args below meth c z nL Q bc bs pc lv (va_rf v :: .ref a :: st) S := G_putR C 10 0 2 rfl rfl (by decide) in_X10 tyX10 tyX10_ok nmX10 rfl rfl (gt_t 35 (by decide +kernel) rfl) (Or.inr ⟨rfl, hfn, rfl⟩) (fun _ => rfl) rfl (fun _ => rfl) rfl hd hk k
theorem pf_RX10_15 (C : Cx p s m args meth c z cc nL RX10 ret nm) {a : Nat} {v : Int32} (hd : decode cc pc = .ok (.putfield 15, 3)) (hk : kd S a = 11) (k : Go p l e R s m args below meth c z nL Q bc bs (pc + 3) lv st (sI S 162 a 0 v)) : Go p l e R s m args below meth c z nL Q bc bs pc lv (.int v :: .ref a :: st) S := G_putI C 10 1 2 rfl rfl (by decide) in_X10 tyX10 tyX10_ok nmX10 rfl rfl (gt_t 37 (by decide +kernel) rfl) (Or.inl rfl) rfl rfl hd hk k
theorem gf_RX10_9 (C : Cx p s m args meth c z cc nL RX10 ret nm) {a : Nat} (hd : decode cc pc = .ok (.getfield 9, 3)) (hk : kd S a = 11) (k : Go p l e R s m args below meth c z nL Q bc bs (pc + 3) lv (va_rf (gR S 161 a 0) :: st) S) : Go p l e R s m args below meth c z nL Q bc bs pc lv (.ref a :: st) S := G_getR C 10 0 2 rfl rfl (by decide) in_X10 rfl rfl (gt_t 35 (by decide +kernel) rfl) hd hk k
theorem gf_RX10_15 (C : Cx p s m args meth c z cc nL RX10 ret nm) {a : Nat} (hd : decode cc pc = .ok (.getfield 15, 3)) (hk : kd S a = 11) (k : Go p l e R s m args below meth c z nL Q bc bs (pc + 3) lv (.int (gI S 162 a 0) :: st) S) : Go p l e R s m args below meth c z nL Q bc bs pc lv (.ref a :: st) S := G_getI C 10 1 2 rfl rfl (by decide) in_X10 rfl rfl (gt_t 37 (by decide +kernel) rfl) hd hk k
theorem dsc_X10_isSign : dsc yX10_isSign 2 := ⟨by decide, by decide, by decide +kernel⟩
theorem cl_RX10_28 (C : Cx p s m args meth c z cc nL RX10 ret nm) {a : Nat} {q0 : Int32} {q1 : Int32} {rest : List Value} {post : Option Value → Hp → Prop} (hm : Ct l z yX10_isSign cX10_isSign 3 (some .boolean) 0 0 0 0 [.ref a, .int (q0), .int (q1)] S post) (hR : 0 + 1 ≤ R.frames ∧ 8 + (3 + 11) + 0 ≤ R.locals) (hk : kd S a = 11) (hd : decode cc pc = .ok (.invokevirtual 28, 3)) (hW : (rest.map fun v => v.category).sum ≤ 8) (k : ∀ (v : Option Value) (S' : Hp), post v S' → Go p l e R s m args below meth c z nL Q bc bs (pc + 3) lv (v.toList ++ rest) S') : Go p l e R s m args below meth c z nL Q bc bs pc lv (.int (q1) :: .int (q0) :: .ref a :: rest) S := G_callV C 10 2 rfl rfl (gt_t 467 (by decide +kernel) rfl) (gt_t 403 (by decide +kernel) rfl) (gt_t 404 (by decide +kernel) rfl) (gt_t 2 (by decide +kernel) rfl) (gt_t 405 (by decide +kernel) rfl) (dsc_X10_isSign) hm rfl hR hk rfl hW hd k
theorem cl_RX10_32 (C : Cx p s m args meth c z cc nL RX10 ret nm) {q0 : Int32} {q1 : Int32} {q2 : Int32} {rest : List Value} {post : Option Value → Hp → Prop} (hm : Ct l z yX11_within cX11_within 3 (some .boolean) 0 0 0 0 [.int (q0), .int (q1), .int (q2)] S post) (hR : 0 + 1 ≤ R.frames ∧ 8 + (3 + 11) + 0 ≤ R.locals) (hd : decode cc pc = .ok (.invokestatic 32, 3)) (hW : (rest.map fun v => v.category).sum ≤ 8) (k : ∀ (v : Option Value) (S' : Hp), post v S' → Go p l e R s m args below meth c z nL Q bc bs (pc + 3) lv (v.toList ++ rest) S') : Go p l e R s m args below meth c z nL Q bc bs pc lv (.int (q2) :: .int (q1) :: .int (q0) :: rest) S := G_callN C (by decide) (gt_t 271 (by decide +kernel) rfl) (gt_t 1 (by decide +kernel) rfl) (gt_t 272 (by decide +kernel) rfl) (dsc_X11_within) hm rfl hR rfl hW hd k
theorem dsc_X10_isSmallLetter : dsc yX10_isSmallLetter 1 := ⟨by decide, by decide, by decide +kernel⟩
theorem cl_RX10_36 (C : Cx p s m args meth c z cc nL RX10 ret nm) {a : Nat} {q0 : Int32} {rest : List Value} {post : Option Value → Hp → Prop} (hm : Ct l z yX10_isSmallLetter cX10_isSmallLetter 2 (some .boolean) 0 0 0 0 [.ref a, .int (q0)] S post) (hR : 0 + 1 ≤ R.frames ∧ 8 + (2 + 11) + 0 ≤ R.locals) (hk : kd S a = 11) (hd : decode cc pc = .ok (.invokevirtual 36, 3)) (hW : (rest.map fun v => v.category).sum ≤ 8) (k : ∀ (v : Option Value) (S' : Hp), post v S' → Go p l e R s m args below meth c z nL Q bc bs (pc + 3) lv (v.toList ++ rest) S') : Go p l e R s m args below meth c z nL Q bc bs pc lv (.int (q0) :: .ref a :: rest) S := G_callV C 10 2 rfl rfl (gt_t 510 (by decide +kernel) rfl) (gt_t 407 (by decide +kernel) rfl) (gt_t 408 (by decide +kernel) rfl) (gt_t 2 (by decide +kernel) rfl) (gt_t 409 (by decide +kernel) rfl) (dsc_X10_isSmallLetter) hm rfl hR hk rfl hW hd k
/-! FirstParts$Text.<init>()V -/
abbrev wp_X10_init (a0 : Nat) (S : Hp) (Q : Hp → Prop) : Prop :=
  1 ≤ 1 ∧ 200 ≤ 200 ∧ ∀ n1 : Nat, n1 = sz S → ∀ S2 : Hp, S2 = nw S 20 (200) → kd S2 a0 = 11 ∧ ∀ S3 : Hp, S3 = sR S2 161 a0 0 (some n1) → kd S3 a0 = 11 ∧ ∀ S4 : Hp, S4 = sI S3 162 a0 0 (0 : Int32) → Q S4
set_option maxHeartbeats 4000000 in
set_option maxRecDepth 100000 in
theorem c_X10_init (l : Launch) (z : Zt) (a0 : Nat) (S : Hp) (Q : Hp → Prop) (hw : wp_X10_init a0 S Q) : Ct l z yX10_init cX10_init 1 none 1 20 1 200 [.ref (a0)] S (wV Q) := by
  refine Ct_of (by decide) (Nat.le_of_ble_eq_true rfl) ?_
  intro p e s m args below meth c C
  have C : Cx p s m args meth c z cX10_init 1 RX10 none "<init>" := C
  refine G_sub (lv' := [(0, .ref (a0))]) [0] rfl ?_
  refine G_aload_n (pc := 0) C 0 dX10_init_0 rfl rfl ?_
  refine G_objInit (pc := 1) C oi_RX10_3 (by decide) (by decide) dX10_init_1 ?_
  refine G_aload_n (pc := 4) C 0 dX10_init_4 rfl rfl ?_
  refine G_sipush (pc := 5) C (v := 200) dX10_init_5 (by decide) ?_
  obtain ⟨hb1, hb2, hw⟩ := hw
  refine G_less (bc' := (1 - 1) + 1) (bs' := (200 - 200) + 200) (by omega) (by omega) ?_
  refine G_newa (pc := 8) C (n := (200 : Int32)) 200 w_aI (by decide) (by decide) (by decide) dX10_init_8 ?_
  obtain ⟨n1, hn1⟩ : ∃ y : Nat, y = sz S := ⟨_, rfl⟩
  obtain ⟨S2, hS2⟩ : ∃ y : Hp, y = nw S 20 (200) := ⟨_, rfl⟩
  have hw := hw n1 hn1 S2 hS2
  rw [← hn1]
  rw [← hS2]
  clear hn1 hS2
  obtain ⟨hk, hw⟩ := hw
  refine pf_RX10_9 (pc := 10) C rfl (v := some n1) dX10_init_10 hk ?_
  obtain ⟨S3, hS3⟩ : ∃ y : Hp, y = sR S2 161 a0 0 (some n1) := ⟨_, rfl⟩
  have hw := hw S3 hS3
  rw [← hS3]
  clear hS3
  refine G_aload_n (pc := 13) C 0 dX10_init_13 rfl rfl ?_
  refine G_iconst (pc := 14) C (v := 0) dX10_init_14 (by decide) ?_
  obtain ⟨hk, hw⟩ := hw
  refine pf_RX10_15 (pc := 15) C dX10_init_15 hk ?_
  obtain ⟨S4, hS4⟩ : ∃ y : Hp, y = sI S3 162 a0 0 (0 : Int32) := ⟨_, rfl⟩
  have hw := hw S4 hS4
  rw [← hS4]
  clear hS4
  exact G_vret (pc := 18) C rfl dX10_init_18 ⟨rfl, hw⟩
/-! FirstParts$Text.add(I)Z -/
abbrev wp_X10_add (a0 : Nat) (x1 : Int32) (S : Hp) (Q : Int32 → Hp → Prop) : Prop :=
  kd S a0 = 11 ∧ (((gI S 162 a0 0) < (200 : Int32) → kd S a0 = 11 ∧ kd S a0 = 11 ∧ ∃ b1, (gR S 161 a0 0) = some b1 ∧ kd S b1 = 20 ∧ vp_in (gI S 162 a0 0) (ln S b1) ∧ ∀ S2 : Hp, S2 = sI S 0 b1 ((gI S 162 a0 0)).toNatClampNeg x1 → kd S2 a0 = 11 ∧ kd S2 a0 = 11 ∧ ∀ S3 : Hp, S3 = sI S2 162 a0 0 ((gI S2 162 a0 0) + (1 : Int32)) → Q (1 : Int32) S3) ∧ (¬ (gI S 162 a0 0) < (200 : Int32) → Q (0 : Int32) S))
set_option maxHeartbeats 4000000 in
set_option maxRecDepth 100000 in
theorem c_X10_add (l : Launch) (z : Zt) (a0 : Nat) (x1 : Int32) (S : Hp) (Q : Int32 → Hp → Prop) (hw : wp_X10_add a0 x1 S Q) : Ct l z yX10_add cX10_add 2 (some .boolean) 0 0 0 0 [.ref (a0), .int (x1)] S (wI Q) := by
  refine Ct_of (by decide) (Nat.le_of_ble_eq_true rfl) ?_
  intro p e s m args below meth c C
  have C : Cx p s m args meth c z cX10_add 2 RX10 (some .boolean) "add" := C
  refine G_sub (lv' := [(0, .ref (a0)), (1, .int (x1))]) [0, 1] rfl ?_
  refine G_aload_n (pc := 0) C 0 dX10_add_0 rfl rfl ?_
  obtain ⟨hk, hw⟩ := hw
  refine gf_RX10_15 (pc := 1) C dX10_add_1 hk ?_
  refine G_sipush (pc := 4) C (v := 200) dX10_add_4 (by decide) ?_
  refine G_icmp_lt (pc := 7) C 12 dX10_add_7 (by decide) (fun hc => ?_) (fun hc => ?_)
  · have hw := hw.1 hc
    refine G_aload_n (pc := 12) C 0 dX10_add_12 rfl rfl ?_
    obtain ⟨hk, hw⟩ := hw
    refine gf_RX10_9 (pc := 13) C dX10_add_13 hk ?_
    refine G_aload_n (pc := 16) C 0 dX10_add_16 rfl rfl ?_
    obtain ⟨hk, hw⟩ := hw
    refine gf_RX10_15 (pc := 17) C dX10_add_17 hk ?_
    refine G_iload_n (pc := 20) C 1 dX10_add_20 rfl rfl ?_
    obtain ⟨b1, hq, hw⟩ := hw
    rw [hq]
    obtain ⟨hk, hi, hw⟩ := hw
    refine G_iast (pc := 21) C hk hi dX10_add_21 ?_
    obtain ⟨S2, hS2⟩ : ∃ y : Hp, y = sI S 0 b1 ((gI S 162 a0 0)).toNatClampNeg x1 := ⟨_, rfl⟩
    have hw := hw S2 hS2
    rw [← hS2]
    clear hS2
    refine G_aload_n (pc := 22) C 0 dX10_add_22 rfl rfl ?_
    refine G_dup (pc := 23) C dX10_add_23 rfl ?_
    obtain ⟨hk, hw⟩ := hw
    refine gf_RX10_15 (pc := 24) C dX10_add_24 hk ?_
    refine G_iconst (pc := 27) C (v := 1) dX10_add_27 (by decide) ?_
    refine G_iadd (pc := 28) C dX10_add_28 ?_
    obtain ⟨hk, hw⟩ := hw
    refine pf_RX10_15 (pc := 29) C dX10_add_29 hk ?_
    obtain ⟨S3, hS3⟩ : ∃ y : Hp, y = sI S2 162 a0 0 ((gI S2 162 a0 0) + (1 : Int32)) := ⟨_, rfl⟩
    have hw := hw S3 hS3
    rw [← hS3]
    clear hS3
    refine G_iconst (pc := 32) C (v := 1) dX10_add_32 (by decide) ?_
    exact G_zret (pc := 33) C rfl (by decide) dX10_add_33 ⟨_, rfl, hw⟩
  · have hw := hw.2 hc
    refine G_iconst (pc := 10) C (v := 0) dX10_add_10 (by decide) ?_
    exact G_zret (pc := 11) C rfl (by decide) dX10_add_11 ⟨_, rfl, hw⟩
/-! FirstParts$Text.isSmallLetter(I)Z -/
abbrev wp_X10_isSmallLetter_39  (Q : Int32 → Prop) (s0 : Int32) (S : Hp) : Prop :=
  (s0 = 0 ∨ s0 = 1) ∧ Q s0
abbrev wp_X10_isSmallLetter_38  (Q : Int32 → Prop)  (S : Hp) : Prop :=
  wp_X10_isSmallLetter_39 Q ((0 : Int32)) (S)
abbrev wp_X10_isSmallLetter (a0 : Nat) (x1 : Int32) (S : Hp) (Q : Int32 → Prop) : Prop :=
  ((x1 < 0 → wp_X10_isSmallLetter_38 Q (S)) ∧ (¬ x1 < 0 → kd S a0 = 11 ∧ (((gI S 162 a0 0) ≤ x1 → wp_X10_isSmallLetter_38 Q (S)) ∧ (¬ (gI S 162 a0 0) ≤ x1 → kd S a0 = 11 ∧ ∃ b1, (gR S 161 a0 0) = some b1 ∧ kd S b1 = 20 ∧ vp_in x1 (ln S b1) ∧ (((gI S 0 b1 (x1).toNatClampNeg) < (97 : Int32) → wp_X10_isSmallLetter_38 Q (S)) ∧ (¬ (gI S 0 b1 (x1).toNatClampNeg) < (97 : Int32) → kd S a0 = 11 ∧ ∃ b2, (gR S 161 a0 0) = some b2 ∧ kd S b2 = 20 ∧ vp_in x1 (ln S b2) ∧ (((122 : Int32) < (gI S 0 b2 (x1).toNatClampNeg) → wp_X10_isSmallLetter_38 Q (S)) ∧ (¬ (122 : Int32) < (gI S 0 b2 (x1).toNatClampNeg) → wp_X10_isSmallLetter_39 Q ((1 : Int32)) (S)))))))))
set_option maxHeartbeats 4000000 in
set_option maxRecDepth 100000 in
theorem g_X10_isSmallLetter_39 (C : Cx p s m args meth c z cX10_isSmallLetter 2 RX10 (some .boolean) "isSmallLetter")  {Q : Int32 → Prop} {s0 : Int32} {S : Hp}   (hw : wp_X10_isSmallLetter_39  Q s0 S) : Go p l e { frames := 0, cells := 0, slots := 0, locals := 0 } s m args below meth c z 2 (MQ below (Qx z (pI S Q)) args s 0 0 (own z)) (0) (0) 39 [] [.int (s0)] (S) := by
  obtain ⟨hb, hw⟩ := hw
  exact G_zret (pc := 39) C rfl hb dX10_isSmallLetter_39 ⟨rfl, _, rfl, hw⟩
set_option maxHeartbeats 4000000 in
set_option maxRecDepth 100000 in
theorem g_X10_isSmallLetter_38 (C : Cx p s m args meth c z cX10_isSmallLetter 2 RX10 (some .boolean) "isSmallLetter")  {Q : Int32 → Prop}  {S : Hp}   (hw : wp_X10_isSmallLetter_38  Q  S) : Go p l e { frames := 0, cells := 0, slots := 0, locals := 0 } s m args below meth c z 2 (MQ below (Qx z (pI S Q)) args s 0 0 (own z)) (0) (0) 38 [] [] (S) := by
  refine G_iconst (pc := 38) C (v := 0) dX10_isSmallLetter_38 (by decide) ?_
  exact G_sub [] rfl (g_X10_isSmallLetter_39 C  hw)
set_option maxHeartbeats 4000000 in
set_option maxRecDepth 100000 in
theorem c_X10_isSmallLetter (l : Launch) (z : Zt) (a0 : Nat) (x1 : Int32) (S : Hp) (Q : Int32 → Prop) (hw : wp_X10_isSmallLetter a0 x1 S Q) : Ct l z yX10_isSmallLetter cX10_isSmallLetter 2 (some .boolean) 0 0 0 0 [.ref (a0), .int (x1)] S (pI S Q) := by
  refine Ct_of (by decide) (Nat.le_of_ble_eq_true rfl) ?_
  intro p e s m args below meth c C
  have C : Cx p s m args meth c z cX10_isSmallLetter 2 RX10 (some .boolean) "isSmallLetter" := C
  refine G_sub (lv' := [(0, .ref (a0)), (1, .int (x1))]) [0, 1] rfl ?_
  refine G_iload_n (pc := 0) C 1 dX10_isSmallLetter_0 rfl rfl ?_
  refine G_if_lt (pc := 1) C 38 dX10_isSmallLetter_1 (by decide) (fun hc => ?_) (fun hc => ?_)
  · have hw := hw.1 hc
    exact G_sub [] rfl (g_X10_isSmallLetter_38 C  hw)
  · have hw := hw.2 hc
    refine G_iload_n (pc := 4) C 1 dX10_isSmallLetter_4 rfl rfl ?_
    refine G_aload_n (pc := 5) C 0 dX10_isSmallLetter_5 rfl rfl ?_
    obtain ⟨hk, hw⟩ := hw
    refine gf_RX10_15 (pc := 6) C dX10_isSmallLetter_6 hk ?_
    refine G_icmp_ge (pc := 9) C 38 dX10_isSmallLetter_9 (by decide) (fun hc => ?_) (fun hc => ?_)
    · have hw := hw.1 hc
      exact G_sub [] rfl (g_X10_isSmallLetter_38 C  hw)
    · have hw := hw.2 hc
      refine G_aload_n (pc := 12) C 0 dX10_isSmallLetter_12 rfl rfl ?_
      obtain ⟨hk, hw⟩ := hw
      refine gf_RX10_9 (pc := 13) C dX10_isSmallLetter_13 hk ?_
      refine G_iload_n (pc := 16) C 1 dX10_isSmallLetter_16 rfl rfl ?_
      obtain ⟨b1, hq, hw⟩ := hw
      rw [hq]
      obtain ⟨hk, hi, hw⟩ := hw
      refine G_iald (pc := 17) C hk hi dX10_isSmallLetter_17 ?_
      refine G_bipush (pc := 18) C (v := 97) dX10_isSmallLetter_18 (by decide) ?_
      refine G_icmp_lt (pc := 20) C 38 dX10_isSmallLetter_20 (by decide) (fun hc => ?_) (fun hc => ?_)
      · have hw := hw.1 hc
        exact G_sub [] rfl (g_X10_isSmallLetter_38 C  hw)
      · have hw := hw.2 hc
        refine G_aload_n (pc := 23) C 0 dX10_isSmallLetter_23 rfl rfl ?_
        obtain ⟨hk, hw⟩ := hw
        refine gf_RX10_9 (pc := 24) C dX10_isSmallLetter_24 hk ?_
        refine G_iload_n (pc := 27) C 1 dX10_isSmallLetter_27 rfl rfl ?_
        obtain ⟨b2, hq, hw⟩ := hw
        rw [hq]
        obtain ⟨hk, hi, hw⟩ := hw
        refine G_iald (pc := 28) C hk hi dX10_isSmallLetter_28 ?_
        refine G_bipush (pc := 29) C (v := 122) dX10_isSmallLetter_29 (by decide) ?_
        refine G_icmp_gt (pc := 31) C 38 dX10_isSmallLetter_31 (by decide) (fun hc => ?_) (fun hc => ?_)
        · have hw := hw.1 hc
          exact G_sub [] rfl (g_X10_isSmallLetter_38 C  hw)
        · have hw := hw.2 hc
          refine G_iconst (pc := 34) C (v := 1) dX10_isSmallLetter_34 (by decide) ?_
          refine G_goto (pc := 35) C 39 dX10_isSmallLetter_35 (by decide) ?_
          exact G_sub [] rfl (g_X10_isSmallLetter_39 C  hw)
/-! FirstParts$Text.isDigit(I)Z -/
abbrev wp_X10_isDigit_39  (Q : Int32 → Prop) (s0 : Int32) (S : Hp) : Prop :=
  (s0 = 0 ∨ s0 = 1) ∧ Q s0
abbrev wp_X10_isDigit_38  (Q : Int32 → Prop)  (S : Hp) : Prop :=
  wp_X10_isDigit_39 Q ((0 : Int32)) (S)
abbrev wp_X10_isDigit (a0 : Nat) (x1 : Int32) (S : Hp) (Q : Int32 → Prop) : Prop :=
  ((x1 < 0 → wp_X10_isDigit_38 Q (S)) ∧ (¬ x1 < 0 → kd S a0 = 11 ∧ (((gI S 162 a0 0) ≤ x1 → wp_X10_isDigit_38 Q (S)) ∧ (¬ (gI S 162 a0 0) ≤ x1 → kd S a0 = 11 ∧ ∃ b1, (gR S 161 a0 0) = some b1 ∧ kd S b1 = 20 ∧ vp_in x1 (ln S b1) ∧ (((gI S 0 b1 (x1).toNatClampNeg) < (48 : Int32) → wp_X10_isDigit_38 Q (S)) ∧ (¬ (gI S 0 b1 (x1).toNatClampNeg) < (48 : Int32) → kd S a0 = 11 ∧ ∃ b2, (gR S 161 a0 0) = some b2 ∧ kd S b2 = 20 ∧ vp_in x1 (ln S b2) ∧ (((57 : Int32) < (gI S 0 b2 (x1).toNatClampNeg) → wp_X10_isDigit_38 Q (S)) ∧ (¬ (57 : Int32) < (gI S 0 b2 (x1).toNatClampNeg) → wp_X10_isDigit_39 Q ((1 : Int32)) (S)))))))))
set_option maxHeartbeats 4000000 in
set_option maxRecDepth 100000 in
theorem g_X10_isDigit_39 (C : Cx p s m args meth c z cX10_isDigit 2 RX10 (some .boolean) "isDigit")  {Q : Int32 → Prop} {s0 : Int32} {S : Hp}   (hw : wp_X10_isDigit_39  Q s0 S) : Go p l e { frames := 0, cells := 0, slots := 0, locals := 0 } s m args below meth c z 2 (MQ below (Qx z (pI S Q)) args s 0 0 (own z)) (0) (0) 39 [] [.int (s0)] (S) := by
  obtain ⟨hb, hw⟩ := hw
  exact G_zret (pc := 39) C rfl hb dX10_isDigit_39 ⟨rfl, _, rfl, hw⟩
set_option maxHeartbeats 4000000 in
set_option maxRecDepth 100000 in
theorem g_X10_isDigit_38 (C : Cx p s m args meth c z cX10_isDigit 2 RX10 (some .boolean) "isDigit")  {Q : Int32 → Prop}  {S : Hp}   (hw : wp_X10_isDigit_38  Q  S) : Go p l e { frames := 0, cells := 0, slots := 0, locals := 0 } s m args below meth c z 2 (MQ below (Qx z (pI S Q)) args s 0 0 (own z)) (0) (0) 38 [] [] (S) := by
  refine G_iconst (pc := 38) C (v := 0) dX10_isDigit_38 (by decide) ?_
  exact G_sub [] rfl (g_X10_isDigit_39 C  hw)
set_option maxHeartbeats 4000000 in
set_option maxRecDepth 100000 in
theorem c_X10_isDigit (l : Launch) (z : Zt) (a0 : Nat) (x1 : Int32) (S : Hp) (Q : Int32 → Prop) (hw : wp_X10_isDigit a0 x1 S Q) : Ct l z yX10_isDigit cX10_isDigit 2 (some .boolean) 0 0 0 0 [.ref (a0), .int (x1)] S (pI S Q) := by
  refine Ct_of (by decide) (Nat.le_of_ble_eq_true rfl) ?_
  intro p e s m args below meth c C
  have C : Cx p s m args meth c z cX10_isDigit 2 RX10 (some .boolean) "isDigit" := C
  refine G_sub (lv' := [(0, .ref (a0)), (1, .int (x1))]) [0, 1] rfl ?_
  refine G_iload_n (pc := 0) C 1 dX10_isDigit_0 rfl rfl ?_
  refine G_if_lt (pc := 1) C 38 dX10_isDigit_1 (by decide) (fun hc => ?_) (fun hc => ?_)
  · have hw := hw.1 hc
    exact G_sub [] rfl (g_X10_isDigit_38 C  hw)
  · have hw := hw.2 hc
    refine G_iload_n (pc := 4) C 1 dX10_isDigit_4 rfl rfl ?_
    refine G_aload_n (pc := 5) C 0 dX10_isDigit_5 rfl rfl ?_
    obtain ⟨hk, hw⟩ := hw
    refine gf_RX10_15 (pc := 6) C dX10_isDigit_6 hk ?_
    refine G_icmp_ge (pc := 9) C 38 dX10_isDigit_9 (by decide) (fun hc => ?_) (fun hc => ?_)
    · have hw := hw.1 hc
      exact G_sub [] rfl (g_X10_isDigit_38 C  hw)
    · have hw := hw.2 hc
      refine G_aload_n (pc := 12) C 0 dX10_isDigit_12 rfl rfl ?_
      obtain ⟨hk, hw⟩ := hw
      refine gf_RX10_9 (pc := 13) C dX10_isDigit_13 hk ?_
      refine G_iload_n (pc := 16) C 1 dX10_isDigit_16 rfl rfl ?_
      obtain ⟨b1, hq, hw⟩ := hw
      rw [hq]
      obtain ⟨hk, hi, hw⟩ := hw
      refine G_iald (pc := 17) C hk hi dX10_isDigit_17 ?_
      refine G_bipush (pc := 18) C (v := 48) dX10_isDigit_18 (by decide) ?_
      refine G_icmp_lt (pc := 20) C 38 dX10_isDigit_20 (by decide) (fun hc => ?_) (fun hc => ?_)
      · have hw := hw.1 hc
        exact G_sub [] rfl (g_X10_isDigit_38 C  hw)
      · have hw := hw.2 hc
        refine G_aload_n (pc := 23) C 0 dX10_isDigit_23 rfl rfl ?_
        obtain ⟨hk, hw⟩ := hw
        refine gf_RX10_9 (pc := 24) C dX10_isDigit_24 hk ?_
        refine G_iload_n (pc := 27) C 1 dX10_isDigit_27 rfl rfl ?_
        obtain ⟨b2, hq, hw⟩ := hw
        rw [hq]
        obtain ⟨hk, hi, hw⟩ := hw
        refine G_iald (pc := 28) C hk hi dX10_isDigit_28 ?_
        refine G_bipush (pc := 29) C (v := 57) dX10_isDigit_29 (by decide) ?_
        refine G_icmp_gt (pc := 31) C 38 dX10_isDigit_31 (by decide) (fun hc => ?_) (fun hc => ?_)
        · have hw := hw.1 hc
          exact G_sub [] rfl (g_X10_isDigit_38 C  hw)
        · have hw := hw.2 hc
          refine G_iconst (pc := 34) C (v := 1) dX10_isDigit_34 (by decide) ?_
          refine G_goto (pc := 35) C 39 dX10_isDigit_35 (by decide) ?_
          exact G_sub [] rfl (g_X10_isDigit_39 C  hw)
/-! FirstParts$Text.isSign(IC)Z -/
abbrev wp_X10_isSign_27  (Q : Int32 → Prop) (s0 : Int32) (S : Hp) : Prop :=
  (s0 = 0 ∨ s0 = 1) ∧ Q s0
abbrev wp_X10_isSign_26  (Q : Int32 → Prop)  (S : Hp) : Prop :=
  wp_X10_isSign_27 Q ((0 : Int32)) (S)
abbrev wp_X10_isSign (a0 : Nat) (x1 : Int32) (x2 : Int32) (S : Hp) (Q : Int32 → Prop) : Prop :=
  ((x1 < 0 → wp_X10_isSign_26 Q (S)) ∧ (¬ x1 < 0 → kd S a0 = 11 ∧ (((gI S 162 a0 0) ≤ x1 → wp_X10_isSign_26 Q (S)) ∧ (¬ (gI S 162 a0 0) ≤ x1 → kd S a0 = 11 ∧ ∃ b1, (gR S 161 a0 0) = some b1 ∧ kd S b1 = 20 ∧ vp_in x1 (ln S b1) ∧ (((gI S 0 b1 (x1).toNatClampNeg) ≠ x2 → wp_X10_isSign_26 Q (S)) ∧ ((gI S 0 b1 (x1).toNatClampNeg) = x2 → wp_X10_isSign_27 Q ((1 : Int32)) (S)))))))
set_option maxHeartbeats 4000000 in
set_option maxRecDepth 100000 in
theorem g_X10_isSign_27 (C : Cx p s m args meth c z cX10_isSign 3 RX10 (some .boolean) "isSign")  {Q : Int32 → Prop} {s0 : Int32} {S : Hp}   (hw : wp_X10_isSign_27  Q s0 S) : Go p l e { frames := 0, cells := 0, slots := 0, locals := 0 } s m args below meth c z 3 (MQ below (Qx z (pI S Q)) args s 0 0 (own z)) (0) (0) 27 [] [.int (s0)] (S) := by
  obtain ⟨hb, hw⟩ := hw
  exact G_zret (pc := 27) C rfl hb dX10_isSign_27 ⟨rfl, _, rfl, hw⟩
set_option maxHeartbeats 4000000 in
set_option maxRecDepth 100000 in
theorem g_X10_isSign_26 (C : Cx p s m args meth c z cX10_isSign 3 RX10 (some .boolean) "isSign")  {Q : Int32 → Prop}  {S : Hp}   (hw : wp_X10_isSign_26  Q  S) : Go p l e { frames := 0, cells := 0, slots := 0, locals := 0 } s m args below meth c z 3 (MQ below (Qx z (pI S Q)) args s 0 0 (own z)) (0) (0) 26 [] [] (S) := by
  refine G_iconst (pc := 26) C (v := 0) dX10_isSign_26 (by decide) ?_
  exact G_sub [] rfl (g_X10_isSign_27 C  hw)
set_option maxHeartbeats 4000000 in
set_option maxRecDepth 100000 in
theorem c_X10_isSign (l : Launch) (z : Zt) (a0 : Nat) (x1 : Int32) (x2 : Int32) (S : Hp) (Q : Int32 → Prop) (hw : wp_X10_isSign a0 x1 x2 S Q) : Ct l z yX10_isSign cX10_isSign 3 (some .boolean) 0 0 0 0 [.ref (a0), .int (x1), .int (x2)] S (pI S Q) := by
  refine Ct_of (by decide) (Nat.le_of_ble_eq_true rfl) ?_
  intro p e s m args below meth c C
  have C : Cx p s m args meth c z cX10_isSign 3 RX10 (some .boolean) "isSign" := C
  refine G_sub (lv' := [(0, .ref (a0)), (1, .int (x1)), (2, .int (x2))]) [0, 1, 2] rfl ?_
  refine G_iload_n (pc := 0) C 1 dX10_isSign_0 rfl rfl ?_
  refine G_if_lt (pc := 1) C 26 dX10_isSign_1 (by decide) (fun hc => ?_) (fun hc => ?_)
  · have hw := hw.1 hc
    exact G_sub [] rfl (g_X10_isSign_26 C  hw)
  · have hw := hw.2 hc
    refine G_iload_n (pc := 4) C 1 dX10_isSign_4 rfl rfl ?_
    refine G_aload_n (pc := 5) C 0 dX10_isSign_5 rfl rfl ?_
    obtain ⟨hk, hw⟩ := hw
    refine gf_RX10_15 (pc := 6) C dX10_isSign_6 hk ?_
    refine G_icmp_ge (pc := 9) C 26 dX10_isSign_9 (by decide) (fun hc => ?_) (fun hc => ?_)
    · have hw := hw.1 hc
      exact G_sub [] rfl (g_X10_isSign_26 C  hw)
    · have hw := hw.2 hc
      refine G_aload_n (pc := 12) C 0 dX10_isSign_12 rfl rfl ?_
      obtain ⟨hk, hw⟩ := hw
      refine gf_RX10_9 (pc := 13) C dX10_isSign_13 hk ?_
      refine G_iload_n (pc := 16) C 1 dX10_isSign_16 rfl rfl ?_
      obtain ⟨b1, hq, hw⟩ := hw
      rw [hq]
      obtain ⟨hk, hi, hw⟩ := hw
      refine G_iald (pc := 17) C hk hi dX10_isSign_17 ?_
      refine G_iload_n (pc := 18) C 2 dX10_isSign_18 rfl rfl ?_
      refine G_icmp_ne (pc := 19) C 26 dX10_isSign_19 (by decide) (fun hc => ?_) (fun hc => ?_)
      · have hw := hw.1 hc
        exact G_sub [] rfl (g_X10_isSign_26 C  hw)
      · have hw := hw.2 hc
        refine G_iconst (pc := 22) C (v := 1) dX10_isSign_22 (by decide) ?_
        refine G_goto (pc := 23) C 27 dX10_isSign_23 (by decide) ?_
        exact G_sub [] rfl (g_X10_isSign_27 C  hw)
/-! FirstParts$Text.says(IILjava/lang/String;)Z -/
abbrev wb_X10_says_15  (K15 : Int32 → Prop) (Q : Int32 → Prop) (v0 : Nat) (v1 : Int32) (v3 : Nat) (v4 : Int32) (S : Hp) : Prop :=
  v3 < 4 ∧ (((Int32.ofNat (txN.getD v3 0)) ≤ v4 → Q (1 : Int32)) ∧ (¬ (Int32.ofNat (txN.getD v3 0)) ≤ v4 → v3 < 4 ∧ vp_in v4 (txN.getD v3 0) ∧ kd S v0 = 11 ∧ wp_X10_isSign (v0) ((v1 + v4)) (((txB.getD v3 []).getD (v4).toNatClampNeg 0)) S (fun e1 => ((e1 ≠ 0 → ∀ e3 : Int32, e3 = (v4 + 1) → K15 (e3)) ∧ (e1 = 0 → Q (0 : Int32))))))
abbrev wp_X10_says_15  (Q : Int32 → Prop) (v0 : Nat) (v1 : Int32) (v3 : Nat) (v4 : Int32) (S : Hp) : Prop :=
  Lp (X := Int32) (fun K y => wb_X10_says_15  (fun w0 => K (w0)) Q v0 v1 v3 y S) (v4)
abbrev wp_X10_says (a0 : Nat) (x1 : Int32) (x2 : Int32) (s3 : Nat) (S : Hp) (Q : Int32 → Prop) : Prop :=
  s3 < 4 ∧ (((x2 - x1) = (Int32.ofNat (txN.getD s3 0)) → wp_X10_says_15 Q (a0) (x1) (s3) ((0 : Int32)) (S)) ∧ (¬ (x2 - x1) = (Int32.ofNat (txN.getD s3 0)) → Q (0 : Int32)))
set_option maxHeartbeats 4000000 in
set_option maxRecDepth 100000 in
theorem gb_X10_says_15 (C : Cx p s m args meth c z cX10_says 5 RX10 (some .boolean) "says") {K15 : Int32 → Prop} {Q : Int32 → Prop} {v0 : Nat} {v1 : Int32} {v3 : Nat} {v4 : Int32} {S : Hp}  (hK15 : ∀ (w4 : Int32), K15 w4 → Go p l e { frames := 4, cells := 0, slots := 0, locals := 85 } s m args below meth c z 5 (MQ below (Qx z (pI S Q)) args s 0 0 (own z)) (0) (0) 15 [(0, .ref (v0)), (1, .int (v1)), (3, .ref (zK z (v3))), (4, .int (w4))] [] (S)) (hw : wb_X10_says_15  K15 Q v0 v1 v3 v4 S) : Go p l e { frames := 4, cells := 0, slots := 0, locals := 85 } s m args below meth c z 5 (MQ below (Qx z (pI S Q)) args s 0 0 (own z)) (0) (0) 15 [(0, .ref (v0)), (1, .int (v1)), (3, .ref (zK z (v3))), (4, .int (v4))] [] (S) := by
  refine G_iload (pc := 15) C 3 dX10_says_15 rfl ?_
  refine G_aload_n (pc := 17) C 2 dX10_says_17 rfl rfl ?_
  obtain ⟨hi, hw⟩ := hw
  refine cl_RX10_19 (pc := 18) C (c_String_length l z v3 S hi) ⟨Nat.le_of_ble_eq_true rfl, Nat.le_of_ble_eq_true rfl⟩ hi dX10_says_18 (Nat.le_of_ble_eq_true rfl) ?_
  refine G_icmp_ge (pc := 21) C 49 dX10_says_21 (by decide) (fun hc => ?_) (fun hc => ?_)
  · have hw := hw.1 hc
    refine G_iconst (pc := 49) C (v := 1) dX10_says_49 (by decide) ?_
    exact G_zret (pc := 50) C rfl (by decide) dX10_says_50 ⟨rfl, _, rfl, hw⟩
  · have hw := hw.2 hc
    refine G_aload_n (pc := 24) C 0 dX10_says_24 rfl rfl ?_
    refine G_iload_n (pc := 25) C 1 dX10_says_25 rfl rfl ?_
    refine G_iload (pc := 26) C 3 dX10_says_26 rfl ?_
    refine G_iadd (pc := 28) C dX10_says_28 ?_
    refine G_aload_n (pc := 29) C 2 dX10_says_29 rfl rfl ?_
    refine G_iload (pc := 30) C 3 dX10_says_30 rfl ?_
    obtain ⟨hi, hj, hw⟩ := hw
    refine cl_RX10_24 (pc := 32) C (c_String_charAt l z v3 v4 S hi hj) ⟨Nat.le_of_ble_eq_true rfl, Nat.le_of_ble_eq_true rfl⟩ hi dX10_says_32 (Nat.le_of_ble_eq_true rfl) ?_
    obtain ⟨hk, hw⟩ := hw
    refine cl_RX10_28 (pc := 35) C (c_X10_isSign l z (v0) ((v1 + v4)) (((txB.getD v3 []).getD (v4).toNatClampNeg 0)) S _ hw) ⟨Nat.le_of_ble_eq_true rfl, Nat.le_of_ble_eq_true rfl⟩ hk dX10_says_35 (Nat.le_of_ble_eq_true rfl) (fun v S' hp => ?_)
    clear hw
    obtain ⟨hS, e1, rfl, hw⟩ := hp
    subst S'
    refine G_if_ne (pc := 38) C 43 dX10_says_38 (by decide) (fun hc => ?_) (fun hc => ?_)
    · have hw := hw.1 hc
      obtain ⟨e3, he3⟩ : ∃ y : Int32, y = (v4 + 1) := ⟨_, rfl⟩
      have hw := hw e3 he3
      refine G_iinc (pc := 43) C [(4, .int (e3)), (0, .ref (v0)), (1, .int (v1)), (3, .ref (zK z (v3)))] 3 (v := e3) dX10_says_43 rfl (by rw [he3]; rfl) (by decide) rfl ?_
      clear he3
      refine G_goto (pc := 46) C 15 dX10_says_46 (by decide) ?_
      exact G_sub [1, 2, 3, 0] rfl (hK15 _ hw)
    · have hw := hw.2 hc
      refine G_iconst (pc := 41) C (v := 0) dX10_says_41 (by decide) ?_
      exact G_zret (pc := 42) C rfl (by decide) dX10_says_42 ⟨rfl, _, rfl, hw⟩
set_option maxHeartbeats 4000000 in
set_option maxRecDepth 100000 in
theorem g_X10_says_15 (C : Cx p s m args meth c z cX10_says 5 RX10 (some .boolean) "says")  {Q : Int32 → Prop} {v0 : Nat} {v1 : Int32} {v3 : Nat} {v4 : Int32} {S : Hp}   (hw : wp_X10_says_15  Q v0 v1 v3 v4 S) : Go p l e { frames := 4, cells := 0, slots := 0, locals := 85 } s m args below meth c z 5 (MQ below (Qx z (pI S Q)) args s 0 0 (own z)) (0) (0) 15 [(0, .ref (v0)), (1, .int (v1)), (3, .ref (zK z (v3))), (4, .int (v4))] [] (S) :=
  Lp_go (G := fun y : Int32 => Go p l e { frames := 4, cells := 0, slots := 0, locals := 85 } s m args below meth c z 5 (MQ below (Qx z (pI S Q)) args s 0 0 (own z)) (0) (0) 15 [(0, .ref (v0)), (1, .int (v1)), (3, .ref (zK z (v3))), (4, .int (y))] [] (S)) (fun K y hK hB => gb_X10_says_15 C  (fun w0 h => hK (w0) h) hB) hw
set_option maxHeartbeats 4000000 in
set_option maxRecDepth 100000 in
theorem c_X10_says (l : Launch) (z : Zt) (a0 : Nat) (x1 : Int32) (x2 : Int32) (s3 : Nat) (S : Hp) (Q : Int32 → Prop) (hw : wp_X10_says a0 x1 x2 s3 S Q) : Ct l z yX10_says cX10_says 5 (some .boolean) 4 85 0 0 [.ref (a0), .int (x1), .int (x2), .ref (zK z (s3))] S (pI S Q) := by
  refine Ct_of (by decide) (Nat.le_of_ble_eq_true rfl) ?_
  intro p e s m args below meth c C
  have C : Cx p s m args meth c z cX10_says 5 RX10 (some .boolean) "says" := C
  refine G_sub (lv' := [(0, .ref (a0)), (1, .int (x1)), (2, .int (x2)), (3, .ref (zK z (s3)))]) [0, 1, 2, 3] rfl ?_
  refine G_iload_n (pc := 0) C 2 dX10_says_0 rfl rfl ?_
  refine G_iload_n (pc := 1) C 1 dX10_says_1 rfl rfl ?_
  refine G_isub (pc := 2) C dX10_says_2 ?_
  refine G_aload_n (pc := 3) C 3 dX10_says_3 rfl rfl ?_
  obtain ⟨hi, hw⟩ := hw
  refine cl_RX10_19 (pc := 4) C (c_String_length l z s3 S hi) ⟨Nat.le_of_ble_eq_true rfl, Nat.le_of_ble_eq_true rfl⟩ hi dX10_says_4 (Nat.le_of_ble_eq_true rfl) ?_
  refine G_icmp_eq (pc := 7) C 12 dX10_says_7 (by decide) (fun hc => ?_) (fun hc => ?_)
  · have hw := hw.1 hc
    refine G_iconst (pc := 12) C (v := 0) dX10_says_12 (by decide) ?_
    refine G_istore (pc := 13) C [(4, .int ((0 : Int32))), (0, .ref (a0)), (1, .int (x1)), (2, .int (x2)), (3, .ref (zK z (s3)))] dX10_says_13 (by decide) rfl ?_
    exact G_sub [1, 2, 4, 0] rfl (g_X10_says_15 C  hw)
  · have hw := hw.2 hc
    refine G_iconst (pc := 10) C (v := 0) dX10_says_10 (by decide) ?_
    exact G_zret (pc := 11) C rfl (by decide) dX10_says_11 ⟨rfl, _, rfl, hw⟩
/-! FirstParts$Text.wordAt(II)[I -/
abbrev wp_X10_wordAt_58 (K21 : Int32 → Hp → Nat → Nat → Prop) (Q : Nat → Hp → Prop) (v0 : Nat) (v1 : Int32) (v3 : Nat) (v4 : Int32) (s0 : Int32) (s1 : Int32) (s2 : Nat) (S : Hp) (bc bs : Nat) : Prop :=
  kd S s2 = 20 ∧ vp_in s1 (ln S s2) ∧ ∀ S7 : Hp, S7 = sI S 0 s2 (s1).toNatClampNeg s0 → ∀ e8 : Int32, e8 = (v4 + 1) → K21 (e8) (S7) (bc) (bs)
abbrev wb_X10_wordAt_21  (K21 : Int32 → Hp → Nat → Nat → Prop) (Q : Nat → Hp → Prop) (v0 : Nat) (v1 : Int32) (v3 : Nat) (v4 : Int32) (S : Hp) (bc bs : Nat) : Prop :=
  kd S v3 = 20 ∧ (((Int32.ofNat (ln S v3)) ≤ v4 → Q v3 S) ∧ (¬ (Int32.ofNat (ln S v3)) ≤ v4 → kd S v0 = 11 ∧ wp_X10_isSmallLetter (v0) ((v1 + v4)) S (fun e5 => ((e5 = 0 → wp_X10_wordAt_58 K21 Q (v0) (v1) (v3) (v4) ((0 : Int32)) (v4) (v3) (S) (bc) (bs)) ∧ (¬ e5 = 0 → kd S v0 = 11 ∧ ∃ b9, (gR S 161 v0 0) = some b9 ∧ kd S b9 = 20 ∧ vp_in (v1 + v4) (ln S b9) ∧ wp_X10_wordAt_58 K21 Q (v0) (v1) (v3) (v4) (((gI S 0 b9 ((v1 + v4)).toNatClampNeg) - (97 : Int32))) (v4) (v3) (S) (bc) (bs))))))
abbrev wp_X10_wordAt_21  (Q : Nat → Hp → Prop) (v0 : Nat) (v1 : Int32) (v3 : Nat) (v4 : Int32) (S : Hp) (bc bs : Nat) : Prop :=
  Lp (X := Int32 × Hp × Nat × Nat) (fun K y => wb_X10_wordAt_21  (fun w0 w1 w2 w3 => K (w0, w1, w2, w3)) Q v0 v1 v3 y.1 y.2.1 (y.2.2.1) (y.2.2.2)) (v4, S, bc, bs)
abbrev wp_X10_wordAt_15  (Q : Nat → Hp → Prop) (v0 : Nat) (v1 : Int32) (s0 : Int32) (S : Hp) (bc bs : Nat) : Prop :=
  1 ≤ bc ∧ (s0).toNatClampNeg ≤ bs ∧ ¬ s0 < 0 ∧ (s0).toNatClampNeg * 4 ≤ 536870912 ∧ ∀ n3 : Nat, n3 = sz S → ∀ S4 : Hp, S4 = nw S 20 ((s0).toNatClampNeg) → wp_X10_wordAt_21 Q (v0) (v1) (n3) ((0 : Int32)) (S4) ((bc - 1)) ((bs - (s0).toNatClampNeg))
abbrev wp_X10_wordAt (a0 : Nat) (x1 : Int32) (x2 : Int32) (S : Hp) (Q : Nat → Hp → Prop) : Prop :=
  wp_X11_within (x2) ((0 : Int32)) ((12 : Int32)) S (fun e1 => ((e1 = 0 → wp_X10_wordAt_15 Q (a0) (x1) ((0 : Int32)) (S) (1) (12)) ∧ (¬ e1 = 0 → wp_X10_wordAt_15 Q (a0) (x1) (x2) (S) (1) (12))))
set_option maxHeartbeats 4000000 in
set_option maxRecDepth 100000 in
theorem g_X10_wordAt_58 (C : Cx p s m args meth c z cX10_wordAt 5 RX10 (some (.array .int)) "wordAt") {K21 : Int32 → Hp → Nat → Nat → Prop} {Q : Nat → Hp → Prop} {v0 : Nat} {v1 : Int32} {v3 : Nat} {v4 : Int32} {s0 : Int32} {s1 : Int32} {s2 : Nat} {S : Hp} {bc bs : Nat}  (hK21 : ∀ (w4 : Int32) (S2 : Hp) (bc2 bs2 : Nat), K21 w4 S2 bc2 bs2 → Go p l e { frames := 1, cells := 1, slots := 12, locals := 22 } s m args below meth c z 5 (MQ below (Qx z (wA Q)) args s 1 12 (own z)) (bc2) (bs2) 21 [(0, .ref (v0)), (1, .int (v1)), (3, .ref (v3)), (4, .int (w4))] [] (S2)) (hw : wp_X10_wordAt_58 K21 Q v0 v1 v3 v4 s0 s1 s2 S bc bs) : Go p l e { frames := 1, cells := 1, slots := 12, locals := 22 } s m args below meth c z 5 (MQ below (Qx z (wA Q)) args s 1 12 (own z)) (bc) (bs) 58 [(0, .ref (v0)), (1, .int (v1)), (3, .ref (v3)), (4, .int (v4))] [.int (s0), .int (s1), .ref (s2)] (S) := by
  obtain ⟨hk, hi, hw⟩ := hw
  refine G_iast (pc := 58) C hk hi dX10_wordAt_58 ?_
  obtain ⟨S7, hS7⟩ : ∃ y : Hp, y = sI S 0 s2 (s1).toNatClampNeg s0 := ⟨_, rfl⟩
  have hw := hw S7 hS7
  rw [← hS7]
  clear hS7
  obtain ⟨e8, he8⟩ : ∃ y : Int32, y = (v4 + 1) := ⟨_, rfl⟩
  have hw := hw e8 he8
  refine G_iinc (pc := 59) C [(4, .int (e8)), (0, .ref (v0)), (1, .int (v1)), (3, .ref (v3))] 3 (v := e8) dX10_wordAt_59 rfl (by rw [he8]; rfl) (by decide) rfl ?_
  clear he8
  refine G_goto (pc := 62) C 21 dX10_wordAt_62 (by decide) ?_
  exact G_sub [1, 2, 3, 0] rfl (hK21 _ _ _ _ hw)
set_option maxHeartbeats 4000000 in
set_option maxRecDepth 100000 in
theorem gb_X10_wordAt_21 (C : Cx p s m args meth c z cX10_wordAt 5 RX10 (some (.array .int)) "wordAt") {K21 : Int32 → Hp → Nat → Nat → Prop} {Q : Nat → Hp → Prop} {v0 : Nat} {v1 : Int32} {v3 : Nat} {v4 : Int32} {S : Hp} {bc bs : Nat}  (hK21 : ∀ (w4 : Int32) (S2 : Hp) (bc2 bs2 : Nat), K21 w4 S2 bc2 bs2 → Go p l e { frames := 1, cells := 1, slots := 12, locals := 22 } s m args below meth c z 5 (MQ below (Qx z (wA Q)) args s 1 12 (own z)) (bc2) (bs2) 21 [(0, .ref (v0)), (1, .int (v1)), (3, .ref (v3)), (4, .int (w4))] [] (S2)) (hw : wb_X10_wordAt_21  K21 Q v0 v1 v3 v4 S bc bs) : Go p l e { frames := 1, cells := 1, slots := 12, locals := 22 } s m args below meth c z 5 (MQ below (Qx z (wA Q)) args s 1 12 (own z)) (bc) (bs) 21 [(0, .ref (v0)), (1, .int (v1)), (3, .ref (v3)), (4, .int (v4))] [] (S) := by
  refine G_iload (pc := 21) C 3 dX10_wordAt_21 rfl ?_
  refine G_aload_n (pc := 23) C 2 dX10_wordAt_23 rfl rfl ?_
  obtain ⟨hk, hw⟩ := hw
  refine G_alenI (pc := 24) C hk dX10_wordAt_24 ?_
  refine G_icmp_ge (pc := 25) C 65 dX10_wordAt_25 (by decide) (fun hc => ?_) (fun hc => ?_)
  · have hw := hw.1 hc
    refine G_aload_n (pc := 65) C 2 dX10_wordAt_65 rfl rfl ?_
    exact G_aret (pc := 66) C rfl (by first | exact Or.inl ⟨_, rfl⟩ | exact Or.inr ⟨_, rfl⟩) dX10_wordAt_66 ⟨_, rfl, hw⟩
  · have hw := hw.2 hc
    refine G_aload_n (pc := 28) C 2 dX10_wordAt_28 rfl rfl ?_
    refine G_iload (pc := 29) C 3 dX10_wordAt_29 rfl ?_
    refine G_aload_n (pc := 31) C 0 dX10_wordAt_31 rfl rfl ?_
    refine G_iload_n (pc := 32) C 1 dX10_wordAt_32 rfl rfl ?_
    refine G_iload (pc := 33) C 3 dX10_wordAt_33 rfl ?_
    refine G_iadd (pc := 35) C dX10_wordAt_35 ?_
    obtain ⟨hk, hw⟩ := hw
    refine cl_RX10_36 (pc := 36) C (c_X10_isSmallLetter l z (v0) ((v1 + v4)) S _ hw) ⟨Nat.le_of_ble_eq_true rfl, Nat.le_of_ble_eq_true rfl⟩ hk dX10_wordAt_36 (Nat.le_of_ble_eq_true rfl) (fun v S' hp => ?_)
    clear hw
    obtain ⟨hS, e5, rfl, hw⟩ := hp
    subst S'
    refine G_if_eq (pc := 39) C 57 dX10_wordAt_39 (by decide) (fun hc => ?_) (fun hc => ?_)
    · have hw := hw.1 hc
      refine G_iconst (pc := 57) C (v := 0) dX10_wordAt_57 (by decide) ?_
      exact G_sub [0, 1, 2, 3] rfl (g_X10_wordAt_58 C hK21 hw)
    · have hw := hw.2 hc
      refine G_aload_n (pc := 42) C 0 dX10_wordAt_42 rfl rfl ?_
      obtain ⟨hk, hw⟩ := hw
      refine gf_RX10_9 (pc := 43) C dX10_wordAt_43 hk ?_
      refine G_iload_n (pc := 46) C 1 dX10_wordAt_46 rfl rfl ?_
      refine G_iload (pc := 47) C 3 dX10_wordAt_47 rfl ?_
      refine G_iadd (pc := 49) C dX10_wordAt_49 ?_
      obtain ⟨b9, hq, hw⟩ := hw
      rw [hq]
      obtain ⟨hk, hi, hw⟩ := hw
      refine G_iald (pc := 50) C hk hi dX10_wordAt_50 ?_
      refine G_bipush (pc := 51) C (v := 97) dX10_wordAt_51 (by decide) ?_
      refine G_isub (pc := 53) C dX10_wordAt_53 ?_
      refine G_goto (pc := 54) C 58 dX10_wordAt_54 (by decide) ?_
      exact G_sub [0, 1, 2, 3] rfl (g_X10_wordAt_58 C hK21 hw)
set_option maxHeartbeats 4000000 in
set_option maxRecDepth 100000 in
theorem g_X10_wordAt_21 (C : Cx p s m args meth c z cX10_wordAt 5 RX10 (some (.array .int)) "wordAt")  {Q : Nat → Hp → Prop} {v0 : Nat} {v1 : Int32} {v3 : Nat} {v4 : Int32} {S : Hp} {bc bs : Nat}   (hw : wp_X10_wordAt_21  Q v0 v1 v3 v4 S bc bs) : Go p l e { frames := 1, cells := 1, slots := 12, locals := 22 } s m args below meth c z 5 (MQ below (Qx z (wA Q)) args s 1 12 (own z)) (bc) (bs) 21 [(0, .ref (v0)), (1, .int (v1)), (3, .ref (v3)), (4, .int (v4))] [] (S) :=
  Lp_go (G := fun y : Int32 × Hp × Nat × Nat => Go p l e { frames := 1, cells := 1, slots := 12, locals := 22 } s m args below meth c z 5 (MQ below (Qx z (wA Q)) args s 1 12 (own z)) (y.2.2.1) (y.2.2.2) 21 [(0, .ref (v0)), (1, .int (v1)), (3, .ref (v3)), (4, .int (y.1))] [] (y.2.1)) (fun K y hK hB => gb_X10_wordAt_21 C  (fun w0 w1 w2 w3 h => hK (w0, w1, w2, w3) h) hB) hw
set_option maxHeartbeats 4000000 in
set_option maxRecDepth 100000 in
theorem g_X10_wordAt_15 (C : Cx p s m args meth c z cX10_wordAt 5 RX10 (some (.array .int)) "wordAt")  {Q : Nat → Hp → Prop} {v0 : Nat} {v1 : Int32} {s0 : Int32} {S : Hp} {bc bs : Nat}   (hw : wp_X10_wordAt_15  Q v0 v1 s0 S bc bs) : Go p l e { frames := 1, cells := 1, slots := 12, locals := 22 } s m args below meth c z 5 (MQ below (Qx z (wA Q)) args s 1 12 (own z)) (bc) (bs) 15 [(0, .ref (v0)), (1, .int (v1))] [.int (s0)] (S) := by
  obtain ⟨hb1, hb2, hw⟩ := hw
  obtain ⟨hn0, hn4, hw⟩ := hw
  refine G_less (bc' := (bc - 1) + 1) (bs' := (bs - (s0).toNatClampNeg) + (s0).toNatClampNeg) (by omega) (by omega) ?_
  refine G_newa (pc := 15) C (n := s0) (s0).toNatClampNeg w_aI hn0 rfl hn4 dX10_wordAt_15 ?_
  obtain ⟨n3, hn3⟩ : ∃ y : Nat, y = sz S := ⟨_, rfl⟩
  obtain ⟨S4, hS4⟩ : ∃ y : Hp, y = nw S 20 ((s0).toNatClampNeg) := ⟨_, rfl⟩
  have hw := hw n3 hn3 S4 hS4
  rw [← hn3]
  rw [← hS4]
  clear hn3 hS4
  refine G_astore_n (pc := 17) C [(3, .ref (n3)), (0, .ref (v0)), (1, .int (v1))] dX10_wordAt_17 rfl (by decide) rfl ?_
  refine G_iconst (pc := 18) C (v := 0) dX10_wordAt_18 (by decide) ?_
  refine G_istore (pc := 19) C [(4, .int ((0 : Int32))), (3, .ref (n3)), (0, .ref (v0)), (1, .int (v1))] dX10_wordAt_19 (by decide) rfl ?_
  exact G_sub [2, 3, 1, 0] rfl (g_X10_wordAt_21 C  hw)
set_option maxHeartbeats 4000000 in
set_option maxRecDepth 100000 in
theorem c_X10_wordAt (l : Launch) (z : Zt) (a0 : Nat) (x1 : Int32) (x2 : Int32) (S : Hp) (Q : Nat → Hp → Prop) (hw : wp_X10_wordAt a0 x1 x2 S Q) : Ct l z yX10_wordAt cX10_wordAt 5 (some (.array .int)) 1 22 1 12 [.ref (a0), .int (x1), .int (x2)] S (wA Q) := by
  refine Ct_of (by decide) (Nat.le_of_ble_eq_true rfl) ?_
  intro p e s m args below meth c C
  have C : Cx p s m args meth c z cX10_wordAt 5 RX10 (some (.array .int)) "wordAt" := C
  refine G_sub (lv' := [(0, .ref (a0)), (1, .int (x1)), (2, .int (x2))]) [0, 1, 2] rfl ?_
  refine G_iload_n (pc := 0) C 2 dX10_wordAt_0 rfl rfl ?_
  refine G_iconst (pc := 1) C (v := 0) dX10_wordAt_1 (by decide) ?_
  refine G_bipush (pc := 2) C (v := 12) dX10_wordAt_2 (by decide) ?_
  refine cl_RX10_32 (pc := 4) C (c_X11_within l z (x2) ((0 : Int32)) ((12 : Int32)) S _ hw) ⟨Nat.le_of_ble_eq_true rfl, Nat.le_of_ble_eq_true rfl⟩ dX10_wordAt_4 (Nat.le_of_ble_eq_true rfl) (fun v S' hp => ?_)
  clear hw
  obtain ⟨hS, e1, rfl, hw⟩ := hp
  subst S'
  refine G_if_eq (pc := 7) C 14 dX10_wordAt_7 (by decide) (fun hc => ?_) (fun hc => ?_)
  · have hw := hw.1 hc
    refine G_iconst (pc := 14) C (v := 0) dX10_wordAt_14 (by decide) ?_
    exact G_sub [0, 1] rfl (g_X10_wordAt_15 C  hw)
  · have hw := hw.2 hc
    refine G_iload_n (pc := 10) C 2 dX10_wordAt_10 rfl rfl ?_
    refine G_goto (pc := 11) C 15 dX10_wordAt_11 (by decide) ?_
    exact G_sub [0, 1] rfl (g_X10_wordAt_15 C  hw)
end W13textleantxt
