section W18model2leantxt
variable {p : Program} {l : Launch} {e : Env} {R : Room} {s : State} {m : MethodId} {args : Array Value} {below : List Frame} {meth : Method} {c : Code} {z : Zt} {cc : ByteArray} {nL : Nat} {ow : String} {ret : Option FieldType} {nm : String} {Q : State → Prop} {bc bs pc : Nat} {lv : List (Nat × Value)} {st : List Value} {S : Hp}
theorem dsc_X12_notes : dsc yX12_notes 0 := ⟨by decide, by decide, by decide +kernel⟩
theorem cl_RX12_120 (C : Cx p s m args meth c z cc nL RX12 ret nm) {a : Nat}  {rest : List Value} {post : Option Value → Hp → Prop} (hm : Ct l z yX12_notes cX12_notes 2 none 1 23 0 0 [.ref a] S post) (hR : 1 + 1 ≤ R.frames ∧ 8 + (2 + 11) + 23 ≤ R.locals) (hk : kd S a = 13) (hd : decode cc pc = .ok (.invokevirtual 120, 3)) (hW : (rest.map fun v => v.category).sum ≤ 8) (k : ∀ (v : Option Value) (S' : Hp), post v S' → Go p l e R s m args below meth c z nL Q bc bs (pc + 3) lv (v.toList ++ rest) S') : Go p l e R s m args below meth c z nL Q bc bs pc lv (.ref a :: rest) S := G_callV C 12 14 rfl rfl (gt_t 957 (by decide +kernel) rfl) (gt_t 959 (by decide +kernel) rfl) (gt_s 28 (by decide +kernel) rfl) (gt_t 14 (by decide +kernel) rfl) (gt_t 960 (by decide +kernel) rfl) (dsc_X12_notes) hm rfl hR hk rfl hW hd k
theorem dsc_X12_changes : dsc yX12_changes 2 := ⟨by decide, by decide, by decide +kernel⟩
theorem cl_RX12_125 (C : Cx p s m args meth c z cc nL RX12 ret nm) {a : Nat} {q0 : Int32} {q1 : Int32} {rest : List Value} {post : Option Value → Hp → Prop} (hm : Ct l z yX12_changes cX12_changes 4 (some .int) 2 44 0 0 [.ref a, .int (q0), .int (q1)] S post) (hR : 2 + 1 ≤ R.frames ∧ 8 + (4 + 11) + 44 ≤ R.locals) (hk : kd S a = 13) (hd : decode cc pc = .ok (.invokevirtual 125, 3)) (hW : (rest.map fun v => v.category).sum ≤ 8) (k : ∀ (v : Option Value) (S' : Hp), post v S' → Go p l e R s m args below meth c z nL Q bc bs (pc + 3) lv (v.toList ++ rest) S') : Go p l e R s m args below meth c z nL Q bc bs pc lv (.int (q1) :: .int (q0) :: .ref a :: rest) S := G_callV C 12 14 rfl rfl (gt_t 953 (by decide +kernel) rfl) (gt_t 955 (by decide +kernel) rfl) (gt_s 27 (by decide +kernel) rfl) (gt_t 14 (by decide +kernel) rfl) (gt_t 956 (by decide +kernel) rfl) (dsc_X12_changes) hm rfl hR hk rfl hW hd k
theorem kl_RX12_123 : Cond.constantLong RX12 123 8 ∈ gt := gt_t 952 (by decide +kernel) rfl
theorem kl_RX12_128 : Cond.constantLong RX12 128 40 ∈ gt := gt_t 969 (by decide +kernel) rfl
theorem kl_RX12_130 : Cond.constantLong RX12 130 9 ∈ gt := gt_t 978 (by decide +kernel) rfl
theorem dsc_X12_value : dsc yX12_value 3 := ⟨by decide, by decide, by decide +kernel⟩
theorem cl_RX12_132 (C : Cx p s m args meth c z cc nL RX12 ret nm) {q0 : Int32} {q1 : Int32} {q2 : Int32} {rest : List Value} {post : Option Value → Hp → Prop} (hm : Ct l z yX12_value cX12_value 3 (some .int) 0 0 0 0 [.int (q0), .int (q1), .int (q2)] S post) (hR : 0 + 1 ≤ R.frames ∧ 8 + (3 + 11) + 0 ≤ R.locals) (hd : decode cc pc = .ok (.invokestatic 132, 3)) (hW : (rest.map fun v => v.category).sum ≤ 8) (k : ∀ (v : Option Value) (S' : Hp), post v S' → Go p l e R s m args below meth c z nL Q bc bs (pc + 3) lv (v.toList ++ rest) S') : Go p l e R s m args below meth c z nL Q bc bs pc lv (.int (q2) :: .int (q1) :: .int (q0) :: rest) S := G_callS C (gt_t 999 (by decide +kernel) rfl) (gt_t 1000 (by decide +kernel) rfl) (gt_t 14 (by decide +kernel) rfl) (gt_t 1001 (by decide +kernel) rfl) (dsc_X12_value) hm rfl hR rfl hW hd k
theorem dsc_X12_isFit : dsc yX12_isFit 0 := ⟨by decide, by decide, by decide +kernel⟩
theorem cl_RX12_136 (C : Cx p s m args meth c z cc nL RX12 ret nm) {a : Nat}  {rest : List Value} {post : Option Value → Hp → Prop} (hm : Ct l z yX12_isFit cX12_isFit 3 (some .boolean) 3 65 0 0 [.ref a] S post) (hR : 3 + 1 ≤ R.frames ∧ 8 + (3 + 11) + 65 ≤ R.locals) (hk : kd S a = 13) (hd : decode cc pc = .ok (.invokevirtual 136, 3)) (hW : (rest.map fun v => v.category).sum ≤ 8) (k : ∀ (v : Option Value) (S' : Hp), post v S' → Go p l e R s m args below meth c z nL Q bc bs (pc + 3) lv (v.toList ++ rest) S') : Go p l e R s m args below meth c z nL Q bc bs pc lv (.ref a :: rest) S := G_callV C 12 14 rfl rfl (gt_t 987 (by decide +kernel) rfl) (gt_t 989 (by decide +kernel) rfl) (gt_s 30 (by decide +kernel) rfl) (gt_t 14 (by decide +kernel) rfl) (gt_t 990 (by decide +kernel) rfl) (dsc_X12_isFit) hm rfl hR hk rfl hW hd k
theorem dsc_X12_packs : dsc yX12_packs 2 := ⟨by decide, by decide, by decide +kernel⟩
theorem cl_RX12_139 (C : Cx p s m args meth c z cc nL RX12 ret nm) {a : Nat} {q0 : Int32} {q1 : Int32} {rest : List Value} {post : Option Value → Hp → Prop} (hm : Ct l z yX12_packs cX12_packs 10 none 2 42 0 0 [.ref a, .int (q0), .int (q1)] S post) (hR : 2 + 1 ≤ R.frames ∧ 8 + (10 + 11) + 42 ≤ R.locals) (hk : kd S a = 13) (hd : decode cc pc = .ok (.invokevirtual 139, 3)) (hW : (rest.map fun v => v.category).sum ≤ 8) (k : ∀ (v : Option Value) (S' : Hp), post v S' → Go p l e R s m args below meth c z nL Q bc bs (pc + 3) lv (v.toList ++ rest) S') : Go p l e R s m args below meth c z nL Q bc bs pc lv (.int (q1) :: .int (q0) :: .ref a :: rest) S := G_callV C 12 14 rfl rfl (gt_t 995 (by decide +kernel) rfl) (gt_t 997 (by decide +kernel) rfl) (gt_s 32 (by decide +kernel) rfl) (gt_t 14 (by decide +kernel) rfl) (gt_t 998 (by decide +kernel) rfl) (dsc_X12_packs) hm rfl hR hk rfl hW hd k
theorem dsc_X12_isPacket : dsc yX12_isPacket 1 := ⟨by decide, by decide, by decide +kernel⟩
theorem cl_RX12_142 (C : Cx p s m args meth c z cc nL RX12 ret nm) {a : Nat} {q0 : Int32} {rest : List Value} {post : Option Value → Hp → Prop} (hm : Ct l z yX12_isPacket cX12_isPacket 2 (some .boolean) 1 25 0 0 [.ref a, .int (q0)] S post) (hR : 1 + 1 ≤ R.frames ∧ 8 + (2 + 11) + 25 ≤ R.locals) (hk : kd S a = 13) (hd : decode cc pc = .ok (.invokevirtual 142, 3)) (hW : (rest.map fun v => v.category).sum ≤ 8) (k : ∀ (v : Option Value) (S' : Hp), post v S' → Go p l e R s m args below meth c z nL Q bc bs (pc + 3) lv (v.toList ++ rest) S') : Go p l e R s m args below meth c z nL Q bc bs pc lv (.int (q0) :: .ref a :: rest) S := G_callV C 12 14 rfl rfl (gt_t 1006 (by decide +kernel) rfl) (gt_t 1008 (by decide +kernel) rfl) (gt_s 33 (by decide +kernel) rfl) (gt_t 14 (by decide +kernel) rfl) (gt_t 1009 (by decide +kernel) rfl) (dsc_X12_isPacket) hm rfl hR hk rfl hW hd k
theorem dsc_X12_hasNumber : dsc yX12_hasNumber 2 := ⟨by decide, by decide, by decide +kernel⟩
theorem cl_RX12_145 (C : Cx p s m args meth c z cc nL RX12 ret nm) {a : Nat} {q0 : Int32} {q1 : Int32} {rest : List Value} {post : Option Value → Hp → Prop} (hm : Ct l z yX12_hasNumber cX12_hasNumber 3 (some .boolean) 1 25 0 0 [.ref a, .int (q0), .int (q1)] S post) (hR : 1 + 1 ≤ R.frames ∧ 8 + (3 + 11) + 25 ≤ R.locals) (hk : kd S a = 13) (hd : decode cc pc = .ok (.invokevirtual 145, 3)) (hW : (rest.map fun v => v.category).sum ≤ 8) (k : ∀ (v : Option Value) (S' : Hp), post v S' → Go p l e R s m args below meth c z nL Q bc bs (pc + 3) lv (v.toList ++ rest) S') : Go p l e R s m args below meth c z nL Q bc bs pc lv (.int (q1) :: .int (q0) :: .ref a :: rest) S := G_callV C 12 14 rfl rfl (gt_t 1018 (by decide +kernel) rfl) (gt_t 1020 (by decide +kernel) rfl) (gt_s 34 (by decide +kernel) rfl) (gt_t 14 (by decide +kernel) rfl) (gt_t 1021 (by decide +kernel) rfl) (dsc_X12_hasNumber) hm rfl hR hk rfl hW hd k
theorem kl_RX12_149 : Cond.constantLong RX12 149 28 ∈ gt := gt_t 1022 (by decide +kernel) rfl
theorem dsc_X12_packedNeed : dsc yX12_packedNeed 1 := ⟨by decide, by decide, by decide +kernel⟩
theorem cl_RX12_151 (C : Cx p s m args meth c z cc nL RX12 ret nm) {a : Nat} {q0 : Int32} {rest : List Value} {post : Option Value → Hp → Prop} (hm : Ct l z yX12_packedNeed cX12_packedNeed 2 (some .int) 0 0 0 0 [.ref a, .int (q0)] S post) (hR : 0 + 1 ≤ R.frames ∧ 8 + (2 + 11) + 0 ≤ R.locals) (hk : kd S a = 13) (hd : decode cc pc = .ok (.invokevirtual 151, 3)) (hW : (rest.map fun v => v.category).sum ≤ 8) (k : ∀ (v : Option Value) (S' : Hp), post v S' → Go p l e R s m args below meth c z nL Q bc bs (pc + 3) lv (v.toList ++ rest) S') : Go p l e R s m args below meth c z nL Q bc bs pc lv (.int (q0) :: .ref a :: rest) S := G_callV C 12 14 rfl rfl (gt_t 1055 (by decide +kernel) rfl) (gt_t 1057 (by decide +kernel) rfl) (gt_s 39 (by decide +kernel) rfl) (gt_t 14 (by decide +kernel) rfl) (gt_t 1058 (by decide +kernel) rfl) (dsc_X12_packedNeed) hm rfl hR hk rfl hW hd k
/-! FirstPartsModel.changes(II)I -/
abbrev wp_X12_changes (a0 : Nat) (x1 : Int32) (x2 : Int32) (S : Hp) (Q : Int32 → Hp → Prop) : Prop :=
  kd S a0 = 13 ∧ wp_X12_notes (a0) S (fun S2 => kd S2 a0 = 13 ∧ ∃ b3, (gR S2 193 a0 0) = some b3 ∧ kd S2 b3 = 20 ∧ vp_in x1 (ln S2 b3) ∧ ∀ e4 : Int32, e4 = (gI S2 0 b3 (x1).toNatClampNeg) → kd S2 a0 = 13 ∧ ∃ b5, (gR S2 193 a0 0) = some b5 ∧ kd S2 b5 = 20 ∧ vp_in x1 (ln S2 b5) ∧ ∀ S6 : Hp, S6 = sI S2 0 b5 (x1).toNatClampNeg x2 → Q e4 S6)
set_option maxHeartbeats 4000000 in
set_option maxRecDepth 100000 in
theorem c_X12_changes (l : Launch) (z : Zt) (a0 : Nat) (x1 : Int32) (x2 : Int32) (S : Hp) (Q : Int32 → Hp → Prop) (hw : wp_X12_changes a0 x1 x2 S Q) : Ct l z yX12_changes cX12_changes 4 (some .int) 2 44 0 0 [.ref (a0), .int (x1), .int (x2)] S (wI Q) := by
  refine Ct_of (by decide) (Nat.le_of_ble_eq_true rfl) ?_
  intro p e s m args below meth c C
  have C : Cx p s m args meth c z cX12_changes 4 RX12 (some .int) "changes" := C
  refine G_sub (lv' := [(0, .ref (a0)), (1, .int (x1)), (2, .int (x2))]) [0, 1, 2] rfl ?_
  refine G_aload_n (pc := 0) C 0 dX12_changes_0 rfl rfl ?_
  obtain ⟨hk, hw⟩ := hw
  refine cl_RX12_120 (pc := 1) C (c_X12_notes l z (a0) S _ hw) ⟨Nat.le_of_ble_eq_true rfl, Nat.le_of_ble_eq_true rfl⟩ hk dX12_changes_1 (Nat.le_of_ble_eq_true rfl) (fun v S' hp => ?_)
  clear hw
  obtain ⟨rfl, hw⟩ := hp
  generalize S' = S2 at hw ⊢
  refine G_aload_n (pc := 4) C 0 dX12_changes_4 rfl rfl ?_
  obtain ⟨hk, hw⟩ := hw
  refine gf_RX12_7 (pc := 5) C dX12_changes_5 hk ?_
  refine G_iload_n (pc := 8) C 1 dX12_changes_8 rfl rfl ?_
  obtain ⟨b3, hq, hw⟩ := hw
  rw [hq]
  obtain ⟨hk, hi, hw⟩ := hw
  refine G_iald (pc := 9) C hk hi dX12_changes_9 ?_
  refine G_topi (fun e4 he4 => ?_)
  have hw := hw e4 he4
  clear he4
  refine G_istore_n (pc := 10) C [(3, .int (e4)), (0, .ref (a0)), (1, .int (x1)), (2, .int (x2))] dX12_changes_10 rfl (by decide) rfl ?_
  refine G_aload_n (pc := 11) C 1 dX12_changes_11 rfl rfl ?_
  obtain ⟨hk, hw⟩ := hw
  refine gf_RX12_7 (pc := 12) C dX12_changes_12 hk ?_
  refine G_iload_n (pc := 15) C 2 dX12_changes_15 rfl rfl ?_
  refine G_iload_n (pc := 16) C 3 dX12_changes_16 rfl rfl ?_
  obtain ⟨b5, hq, hw⟩ := hw
  rw [hq]
  obtain ⟨hk, hi, hw⟩ := hw
  refine G_iast (pc := 17) C hk hi dX12_changes_17 ?_
  obtain ⟨S6, hS6⟩ : ∃ y : Hp, y = sI S2 0 b5 (x1).toNatClampNeg x2 := ⟨_, rfl⟩
  have hw := hw S6 hS6
  rw [← hS6]
  clear hS6
  refine G_iload_n (pc := 18) C 0 dX12_changes_18 rfl rfl ?_
  exact G_iret (pc := 19) C rfl dX12_changes_19 ⟨_, rfl, hw⟩
/-! FirstPartsModel.packets(I)I -/
abbrev wp_X12_packets_23  (Q : Int32 → Hp → Prop) (s0 : Int32) (S : Hp) : Prop :=
  Q s0 S
abbrev wp_X12_packets (a0 : Nat) (x1 : Int32) (S : Hp) (Q : Int32 → Hp → Prop) : Prop :=
  wp_X12_in ((x1).toInt64) ((1 : Int64)) ((8 : Int64)) S (fun e1 => ((e1 = 0 → wp_X12_packets_23 Q ((-3 : Int32)) (S)) ∧ (¬ e1 = 0 → kd S a0 = 13 ∧ wp_X12_changes (a0) ((0 : Int32)) (x1) S (fun e3 S4 => wp_X12_packets_23 Q (e3) (S4)))))
set_option maxHeartbeats 4000000 in
set_option maxRecDepth 100000 in
theorem g_X12_packets_23 (C : Cx p s m args meth c z cX12_packets 2 RX12 (some .int) "packets")  {Q : Int32 → Hp → Prop} {s0 : Int32} {S : Hp}   (hw : wp_X12_packets_23  Q s0 S) : Go p l e { frames := 3, cells := 0, slots := 0, locals := 67 } s m args below meth c z 2 (MQ below (Qx z (wI Q)) args s 0 0 (own z)) (0) (0) 23 [] [.int (s0)] (S) := by
  exact G_iret (pc := 23) C rfl dX12_packets_23 ⟨_, rfl, hw⟩
set_option maxHeartbeats 4000000 in
set_option maxRecDepth 100000 in
theorem c_X12_packets (l : Launch) (z : Zt) (a0 : Nat) (x1 : Int32) (S : Hp) (Q : Int32 → Hp → Prop) (hw : wp_X12_packets a0 x1 S Q) : Ct l z yX12_packets cX12_packets 2 (some .int) 3 67 0 0 [.ref (a0), .int (x1)] S (wI Q) := by
  refine Ct_of (by decide) (Nat.le_of_ble_eq_true rfl) ?_
  intro p e s m args below meth c C
  have C : Cx p s m args meth c z cX12_packets 2 RX12 (some .int) "packets" := C
  refine G_sub (lv' := [(0, .ref (a0)), (1, .int (x1))]) [0, 1] rfl ?_
  refine G_iload_n (pc := 0) C 1 dX12_packets_0 rfl rfl ?_
  refine G_i2l (pc := 1) C dX12_packets_1 ?_
  refine G_lconst (pc := 2) C (v := 1) dX12_packets_2 (by decide) ?_
  refine G_ldc2 (pc := 3) C kl_RX12_123 dX12_packets_3 ?_
  refine cl_RX12_31 (pc := 6) C (c_X12_in l z ((x1).toInt64) ((1 : Int64)) ((8 : Int64)) S _ hw) ⟨Nat.le_of_ble_eq_true rfl, Nat.le_of_ble_eq_true rfl⟩ dX12_packets_6 (Nat.le_of_ble_eq_true rfl) (fun v S' hp => ?_)
  clear hw
  obtain ⟨hS, e1, rfl, hw⟩ := hp
  subst S'
  refine G_if_eq (pc := 9) C 21 dX12_packets_9 (by decide) (fun hc => ?_) (fun hc => ?_)
  · have hw := hw.1 hc
    refine G_bipush (pc := 21) C (v := -3) dX12_packets_21 (by decide) ?_
    exact G_sub [] rfl (g_X12_packets_23 C  hw)
  · have hw := hw.2 hc
    refine G_aload_n (pc := 12) C 0 dX12_packets_12 rfl rfl ?_
    refine G_iconst (pc := 13) C (v := 0) dX12_packets_13 (by decide) ?_
    refine G_iload_n (pc := 14) C 1 dX12_packets_14 rfl rfl ?_
    obtain ⟨hk, hw⟩ := hw
    refine cl_RX12_125 (pc := 15) C (c_X12_changes l z (a0) ((0 : Int32)) (x1) S _ hw) ⟨Nat.le_of_ble_eq_true rfl, Nat.le_of_ble_eq_true rfl⟩ hk dX12_packets_15 (Nat.le_of_ble_eq_true rfl) (fun v S' hp => ?_)
    clear hw
    obtain ⟨e3, rfl, hw⟩ := hp
    generalize S' = S4 at hw ⊢
    refine G_goto (pc := 18) C 23 dX12_packets_18 (by decide) ?_
    exact G_sub [] rfl (g_X12_packets_23 C  hw)
/-! FirstPartsModel.room(I)I -/
abbrev wp_X12_room_23  (Q : Int32 → Hp → Prop) (s0 : Int32) (S : Hp) : Prop :=
  Q s0 S
abbrev wp_X12_room (a0 : Nat) (x1 : Int32) (S : Hp) (Q : Int32 → Hp → Prop) : Prop :=
  wp_X12_in ((x1).toInt64) ((1 : Int64)) ((40 : Int64)) S (fun e1 => ((e1 = 0 → wp_X12_room_23 Q ((-3 : Int32)) (S)) ∧ (¬ e1 = 0 → kd S a0 = 13 ∧ wp_X12_changes (a0) ((1 : Int32)) (x1) S (fun e3 S4 => wp_X12_room_23 Q (e3) (S4)))))
set_option maxHeartbeats 4000000 in
set_option maxRecDepth 100000 in
theorem g_X12_room_23 (C : Cx p s m args meth c z cX12_room 2 RX12 (some .int) "room")  {Q : Int32 → Hp → Prop} {s0 : Int32} {S : Hp}   (hw : wp_X12_room_23  Q s0 S) : Go p l e { frames := 3, cells := 0, slots := 0, locals := 67 } s m args below meth c z 2 (MQ below (Qx z (wI Q)) args s 0 0 (own z)) (0) (0) 23 [] [.int (s0)] (S) := by
  exact G_iret (pc := 23) C rfl dX12_room_23 ⟨_, rfl, hw⟩
set_option maxHeartbeats 4000000 in
set_option maxRecDepth 100000 in
theorem c_X12_room (l : Launch) (z : Zt) (a0 : Nat) (x1 : Int32) (S : Hp) (Q : Int32 → Hp → Prop) (hw : wp_X12_room a0 x1 S Q) : Ct l z yX12_room cX12_room 2 (some .int) 3 67 0 0 [.ref (a0), .int (x1)] S (wI Q) := by
  refine Ct_of (by decide) (Nat.le_of_ble_eq_true rfl) ?_
  intro p e s m args below meth c C
  have C : Cx p s m args meth c z cX12_room 2 RX12 (some .int) "room" := C
  refine G_sub (lv' := [(0, .ref (a0)), (1, .int (x1))]) [0, 1] rfl ?_
  refine G_iload_n (pc := 0) C 1 dX12_room_0 rfl rfl ?_
  refine G_i2l (pc := 1) C dX12_room_1 ?_
  refine G_lconst (pc := 2) C (v := 1) dX12_room_2 (by decide) ?_
  refine G_ldc2 (pc := 3) C kl_RX12_128 dX12_room_3 ?_
  refine cl_RX12_31 (pc := 6) C (c_X12_in l z ((x1).toInt64) ((1 : Int64)) ((40 : Int64)) S _ hw) ⟨Nat.le_of_ble_eq_true rfl, Nat.le_of_ble_eq_true rfl⟩ dX12_room_6 (Nat.le_of_ble_eq_true rfl) (fun v S' hp => ?_)
  clear hw
  obtain ⟨hS, e1, rfl, hw⟩ := hp
  subst S'
  refine G_if_eq (pc := 9) C 21 dX12_room_9 (by decide) (fun hc => ?_) (fun hc => ?_)
  · have hw := hw.1 hc
    refine G_bipush (pc := 21) C (v := -3) dX12_room_21 (by decide) ?_
    exact G_sub [] rfl (g_X12_room_23 C  hw)
  · have hw := hw.2 hc
    refine G_aload_n (pc := 12) C 0 dX12_room_12 rfl rfl ?_
    refine G_iconst (pc := 13) C (v := 1) dX12_room_13 (by decide) ?_
    refine G_iload_n (pc := 14) C 1 dX12_room_14 rfl rfl ?_
    obtain ⟨hk, hw⟩ := hw
    refine cl_RX12_125 (pc := 15) C (c_X12_changes l z (a0) ((1 : Int32)) (x1) S _ hw) ⟨Nat.le_of_ble_eq_true rfl, Nat.le_of_ble_eq_true rfl⟩ hk dX12_room_15 (Nat.le_of_ble_eq_true rfl) (fun v S' hp => ?_)
    clear hw
    obtain ⟨e3, rfl, hw⟩ := hp
    generalize S' = S4 at hw ⊢
    refine G_goto (pc := 18) C 23 dX12_room_18 (by decide) ?_
    exact G_sub [] rfl (g_X12_room_23 C  hw)
/-! FirstPartsModel.need(II)I -/
abbrev wp_X12_need_41  (Q : Int32 → Hp → Prop) (s0 : Int32) (S : Hp) : Prop :=
  Q s0 S
abbrev wp_X12_need (a0 : Nat) (x1 : Int32) (x2 : Int32) (S : Hp) (Q : Int32 → Hp → Prop) : Prop :=
  kd S a0 = 13 ∧ wp_X12_isPart (a0) (x1) S (fun e1 => ((e1 ≠ 0 → wp_X12_in ((x2).toInt64) ((1 : Int64)) ((8 : Int64)) S (fun e3 => ((e3 = 0 → wp_X12_need_41 Q ((-3 : Int32)) (S)) ∧ (¬ e3 = 0 → wp_X12_at (x1) S (fun e5 => kd S a0 = 13 ∧ wp_X12_changes (a0) ((e5 + (1 : Int32))) (x2) S (fun e7 S8 => wp_X12_need_41 Q (e7) (S8))))))) ∧ (e1 = 0 → wp_X12_need_41 Q ((-2 : Int32)) (S))))
set_option maxHeartbeats 4000000 in
set_option maxRecDepth 100000 in
theorem g_X12_need_41 (C : Cx p s m args meth c z cX12_need 3 RX12 (some .int) "need")  {Q : Int32 → Hp → Prop} {s0 : Int32} {S : Hp}   (hw : wp_X12_need_41  Q s0 S) : Go p l e { frames := 3, cells := 0, slots := 0, locals := 67 } s m args below meth c z 3 (MQ below (Qx z (wI Q)) args s 0 0 (own z)) (0) (0) 41 [] [.int (s0)] (S) := by
  exact G_iret (pc := 41) C rfl dX12_need_41 ⟨_, rfl, hw⟩
set_option maxHeartbeats 4000000 in
set_option maxRecDepth 100000 in
theorem c_X12_need (l : Launch) (z : Zt) (a0 : Nat) (x1 : Int32) (x2 : Int32) (S : Hp) (Q : Int32 → Hp → Prop) (hw : wp_X12_need a0 x1 x2 S Q) : Ct l z yX12_need cX12_need 3 (some .int) 3 67 0 0 [.ref (a0), .int (x1), .int (x2)] S (wI Q) := by
  refine Ct_of (by decide) (Nat.le_of_ble_eq_true rfl) ?_
  intro p e s m args below meth c C
  have C : Cx p s m args meth c z cX12_need 3 RX12 (some .int) "need" := C
  refine G_sub (lv' := [(0, .ref (a0)), (1, .int (x1)), (2, .int (x2))]) [0, 1, 2] rfl ?_
  refine G_aload_n (pc := 0) C 0 dX12_need_0 rfl rfl ?_
  refine G_iload_n (pc := 1) C 1 dX12_need_1 rfl rfl ?_
  obtain ⟨hk, hw⟩ := hw
  refine cl_RX12_111 (pc := 2) C (c_X12_isPart l z (a0) (x1) S _ hw) ⟨Nat.le_of_ble_eq_true rfl, Nat.le_of_ble_eq_true rfl⟩ hk dX12_need_2 (Nat.le_of_ble_eq_true rfl) (fun v S' hp => ?_)
  clear hw
  obtain ⟨hS, e1, rfl, hw⟩ := hp
  subst S'
  refine G_if_ne (pc := 5) C 13 dX12_need_5 (by decide) (fun hc => ?_) (fun hc => ?_)
  · have hw := hw.1 hc
    refine G_iload_n (pc := 13) C 2 dX12_need_13 rfl rfl ?_
    refine G_i2l (pc := 14) C dX12_need_14 ?_
    refine G_lconst (pc := 15) C (v := 1) dX12_need_15 (by decide) ?_
    refine G_ldc2 (pc := 16) C kl_RX12_123 dX12_need_16 ?_
    refine cl_RX12_31 (pc := 19) C (c_X12_in l z ((x2).toInt64) ((1 : Int64)) ((8 : Int64)) S _ hw) ⟨Nat.le_of_ble_eq_true rfl, Nat.le_of_ble_eq_true rfl⟩ dX12_need_19 (Nat.le_of_ble_eq_true rfl) (fun v S' hp => ?_)
    clear hw
    obtain ⟨hS, e3, rfl, hw⟩ := hp
    subst S'
    refine G_if_eq (pc := 22) C 39 dX12_need_22 (by decide) (fun hc => ?_) (fun hc => ?_)
    · have hw := hw.1 hc
      refine G_bipush (pc := 39) C (v := -3) dX12_need_39 (by decide) ?_
      exact G_sub [] rfl (g_X12_need_41 C  hw)
    · have hw := hw.2 hc
      refine G_aload_n (pc := 25) C 0 dX12_need_25 rfl rfl ?_
      refine G_iload_n (pc := 26) C 1 dX12_need_26 rfl rfl ?_
      refine cl_RX12_35 (pc := 27) C (c_X12_at l z (x1) S _ hw) ⟨Nat.le_of_ble_eq_true rfl, Nat.le_of_ble_eq_true rfl⟩ dX12_need_27 (Nat.le_of_ble_eq_true rfl) (fun v S' hp => ?_)
      clear hw
      obtain ⟨hS, e5, rfl, hw⟩ := hp
      subst S'
      refine G_iconst (pc := 30) C (v := 1) dX12_need_30 (by decide) ?_
      refine G_iadd (pc := 31) C dX12_need_31 ?_
      refine G_iload_n (pc := 32) C 2 dX12_need_32 rfl rfl ?_
      obtain ⟨hk, hw⟩ := hw
      refine cl_RX12_125 (pc := 33) C (c_X12_changes l z (a0) ((e5 + (1 : Int32))) (x2) S _ hw) ⟨Nat.le_of_ble_eq_true rfl, Nat.le_of_ble_eq_true rfl⟩ hk dX12_need_33 (Nat.le_of_ble_eq_true rfl) (fun v S' hp => ?_)
      clear hw
      obtain ⟨e7, rfl, hw⟩ := hp
      generalize S' = S8 at hw ⊢
      refine G_goto (pc := 36) C 41 dX12_need_36 (by decide) ?_
      exact G_sub [] rfl (g_X12_need_41 C  hw)
  · have hw := hw.2 hc
    refine G_bipush (pc := 8) C (v := -2) dX12_need_8 (by decide) ?_
    refine G_goto (pc := 10) C 41 dX12_need_10 (by decide) ?_
    exact G_sub [] rfl (g_X12_need_41 C  hw)
/-! FirstPartsModel.weigh(II)I -/
abbrev wp_X12_weigh_41  (Q : Int32 → Hp → Prop) (s0 : Int32) (S : Hp) : Prop :=
  Q s0 S
abbrev wp_X12_weigh (a0 : Nat) (x1 : Int32) (x2 : Int32) (S : Hp) (Q : Int32 → Hp → Prop) : Prop :=
  kd S a0 = 13 ∧ wp_X12_isPart (a0) (x1) S (fun e1 => ((e1 ≠ 0 → wp_X12_in ((x2).toInt64) ((1 : Int64)) ((9 : Int64)) S (fun e3 => ((e3 = 0 → wp_X12_weigh_41 Q ((-3 : Int32)) (S)) ∧ (¬ e3 = 0 → wp_X12_at (x1) S (fun e5 => kd S a0 = 13 ∧ wp_X12_changes (a0) ((e5 + (2 : Int32))) (x2) S (fun e7 S8 => wp_X12_weigh_41 Q (e7) (S8))))))) ∧ (e1 = 0 → wp_X12_weigh_41 Q ((-2 : Int32)) (S))))
set_option maxHeartbeats 4000000 in
set_option maxRecDepth 100000 in
theorem g_X12_weigh_41 (C : Cx p s m args meth c z cX12_weigh 3 RX12 (some .int) "weigh")  {Q : Int32 → Hp → Prop} {s0 : Int32} {S : Hp}   (hw : wp_X12_weigh_41  Q s0 S) : Go p l e { frames := 3, cells := 0, slots := 0, locals := 67 } s m args below meth c z 3 (MQ below (Qx z (wI Q)) args s 0 0 (own z)) (0) (0) 41 [] [.int (s0)] (S) := by
  exact G_iret (pc := 41) C rfl dX12_weigh_41 ⟨_, rfl, hw⟩
set_option maxHeartbeats 4000000 in
set_option maxRecDepth 100000 in
theorem c_X12_weigh (l : Launch) (z : Zt) (a0 : Nat) (x1 : Int32) (x2 : Int32) (S : Hp) (Q : Int32 → Hp → Prop) (hw : wp_X12_weigh a0 x1 x2 S Q) : Ct l z yX12_weigh cX12_weigh 3 (some .int) 3 67 0 0 [.ref (a0), .int (x1), .int (x2)] S (wI Q) := by
  refine Ct_of (by decide) (Nat.le_of_ble_eq_true rfl) ?_
  intro p e s m args below meth c C
  have C : Cx p s m args meth c z cX12_weigh 3 RX12 (some .int) "weigh" := C
  refine G_sub (lv' := [(0, .ref (a0)), (1, .int (x1)), (2, .int (x2))]) [0, 1, 2] rfl ?_
  refine G_aload_n (pc := 0) C 0 dX12_weigh_0 rfl rfl ?_
  refine G_iload_n (pc := 1) C 1 dX12_weigh_1 rfl rfl ?_
  obtain ⟨hk, hw⟩ := hw
  refine cl_RX12_111 (pc := 2) C (c_X12_isPart l z (a0) (x1) S _ hw) ⟨Nat.le_of_ble_eq_true rfl, Nat.le_of_ble_eq_true rfl⟩ hk dX12_weigh_2 (Nat.le_of_ble_eq_true rfl) (fun v S' hp => ?_)
  clear hw
  obtain ⟨hS, e1, rfl, hw⟩ := hp
  subst S'
  refine G_if_ne (pc := 5) C 13 dX12_weigh_5 (by decide) (fun hc => ?_) (fun hc => ?_)
  · have hw := hw.1 hc
    refine G_iload_n (pc := 13) C 2 dX12_weigh_13 rfl rfl ?_
    refine G_i2l (pc := 14) C dX12_weigh_14 ?_
    refine G_lconst (pc := 15) C (v := 1) dX12_weigh_15 (by decide) ?_
    refine G_ldc2 (pc := 16) C kl_RX12_130 dX12_weigh_16 ?_
    refine cl_RX12_31 (pc := 19) C (c_X12_in l z ((x2).toInt64) ((1 : Int64)) ((9 : Int64)) S _ hw) ⟨Nat.le_of_ble_eq_true rfl, Nat.le_of_ble_eq_true rfl⟩ dX12_weigh_19 (Nat.le_of_ble_eq_true rfl) (fun v S' hp => ?_)
    clear hw
    obtain ⟨hS, e3, rfl, hw⟩ := hp
    subst S'
    refine G_if_eq (pc := 22) C 39 dX12_weigh_22 (by decide) (fun hc => ?_) (fun hc => ?_)
    · have hw := hw.1 hc
      refine G_bipush (pc := 39) C (v := -3) dX12_weigh_39 (by decide) ?_
      exact G_sub [] rfl (g_X12_weigh_41 C  hw)
    · have hw := hw.2 hc
      refine G_aload_n (pc := 25) C 0 dX12_weigh_25 rfl rfl ?_
      refine G_iload_n (pc := 26) C 1 dX12_weigh_26 rfl rfl ?_
      refine cl_RX12_35 (pc := 27) C (c_X12_at l z (x1) S _ hw) ⟨Nat.le_of_ble_eq_true rfl, Nat.le_of_ble_eq_true rfl⟩ dX12_weigh_27 (Nat.le_of_ble_eq_true rfl) (fun v S' hp => ?_)
      clear hw
      obtain ⟨hS, e5, rfl, hw⟩ := hp
      subst S'
      refine G_iconst (pc := 30) C (v := 2) dX12_weigh_30 (by decide) ?_
      refine G_iadd (pc := 31) C dX12_weigh_31 ?_
      refine G_iload_n (pc := 32) C 2 dX12_weigh_32 rfl rfl ?_
      obtain ⟨hk, hw⟩ := hw
      refine cl_RX12_125 (pc := 33) C (c_X12_changes l z (a0) ((e5 + (2 : Int32))) (x2) S _ hw) ⟨Nat.le_of_ble_eq_true rfl, Nat.le_of_ble_eq_true rfl⟩ hk dX12_weigh_33 (Nat.le_of_ble_eq_true rfl) (fun v S' hp => ?_)
      clear hw
      obtain ⟨e7, rfl, hw⟩ := hp
      generalize S' = S8 at hw ⊢
      refine G_goto (pc := 36) C 41 dX12_weigh_36 (by decide) ?_
      exact G_sub [] rfl (g_X12_weigh_41 C  hw)
  · have hw := hw.2 hc
    refine G_bipush (pc := 8) C (v := -2) dX12_weigh_8 (by decide) ?_
    refine G_goto (pc := 10) C 41 dX12_weigh_10 (by decide) ?_
    exact G_sub [] rfl (g_X12_weigh_41 C  hw)
/-! FirstPartsModel.drop(I)I -/
abbrev wb_X12_drop_30  (K30 : Int32 → Hp → Prop) (Q : Int32 → Hp → Prop) (v0 : Nat) (v2 : Int32) (S : Hp) : Prop :=
  kd S v0 = 13 ∧ ∃ b9, (gR S 193 v0 0) = some b9 ∧ kd S b9 = 20 ∧ vp_in (2 : Int32) (ln S b9) ∧ wp_X12_at ((gI S 0 b9 ((2 : Int32)).toNatClampNeg)) S (fun e10 => ((e10 ≤ v2 → kd S v0 = 13 ∧ ∃ b12, (gR S 193 v0 0) = some b12 ∧ kd S b12 = 20 ∧ vp_in (2 : Int32) (ln S b12) ∧ Q (gI S 0 b12 ((2 : Int32)).toNatClampNeg) S) ∧ (¬ e10 ≤ v2 → kd S v0 = 13 ∧ kd S v0 = 13 ∧ ∃ b13, (gR S 193 v0 0) = some b13 ∧ kd S b13 = 20 ∧ vp_in (v2 + (15 : Int32)) (ln S b13) ∧ kd S b13 = 20 ∧ vp_in v2 (ln S b13) ∧ ∀ S14 : Hp, S14 = sI S 0 b13 (v2).toNatClampNeg (gI S 0 b13 ((v2 + (15 : Int32))).toNatClampNeg) → ∀ e15 : Int32, e15 = (v2 + 1) → K30 (e15) (S14))))
abbrev wp_X12_drop_30  (Q : Int32 → Hp → Prop) (v0 : Nat) (v2 : Int32) (S : Hp) : Prop :=
  Lp (X := Int32 × Hp) (fun K y => wb_X12_drop_30  (fun w0 w1 => K (w0, w1)) Q v0 y.1 y.2) (v2, S)
abbrev wp_X12_drop (a0 : Nat) (x1 : Int32) (S : Hp) (Q : Int32 → Hp → Prop) : Prop :=
  kd S a0 = 13 ∧ wp_X12_isPart (a0) (x1) S (fun e1 => ((e1 ≠ 0 → kd S a0 = 13 ∧ wp_X12_notes (a0) S (fun S4 => kd S4 a0 = 13 ∧ ∃ b5, (gR S4 193 a0 0) = some b5 ∧ kd S4 b5 = 20 ∧ vp_in (2 : Int32) (ln S4 b5) ∧ kd S4 b5 = 20 ∧ vp_in (2 : Int32) (ln S4 b5) ∧ ∀ S6 : Hp, S6 = sI S4 0 b5 ((2 : Int32)).toNatClampNeg ((gI S4 0 b5 ((2 : Int32)).toNatClampNeg) - (1 : Int32)) → wp_X12_at (x1) S6 (fun e7 => wp_X12_drop_30 Q (a0) (e7) (S6)))) ∧ (e1 = 0 → Q (-2 : Int32) S)))
set_option maxHeartbeats 4000000 in
set_option maxRecDepth 100000 in
theorem gb_X12_drop_30 (C : Cx p s m args meth c z cX12_drop 3 RX12 (some .int) "drop") {K30 : Int32 → Hp → Prop} {Q : Int32 → Hp → Prop} {v0 : Nat} {v2 : Int32} {S : Hp}  (hK30 : ∀ (w2 : Int32) (S2 : Hp), K30 w2 S2 → Go p l e { frames := 2, cells := 0, slots := 0, locals := 46 } s m args below meth c z 3 (MQ below (Qx z (wI Q)) args s 0 0 (own z)) (0) (0) 30 [(0, .ref (v0)), (2, .int (w2))] [] (S2)) (hw : wb_X12_drop_30  K30 Q v0 v2 S) : Go p l e { frames := 2, cells := 0, slots := 0, locals := 46 } s m args below meth c z 3 (MQ below (Qx z (wI Q)) args s 0 0 (own z)) (0) (0) 30 [(0, .ref (v0)), (2, .int (v2))] [] (S) := by
  refine G_iload_n (pc := 30) C 1 dX12_drop_30 rfl rfl ?_
  refine G_aload_n (pc := 31) C 0 dX12_drop_31 rfl rfl ?_
  obtain ⟨hk, hw⟩ := hw
  refine gf_RX12_7 (pc := 32) C dX12_drop_32 hk ?_
  refine G_iconst (pc := 35) C (v := 2) dX12_drop_35 (by decide) ?_
  obtain ⟨b9, hq, hw⟩ := hw
  rw [hq]
  obtain ⟨hk, hi, hw⟩ := hw
  refine G_iald (pc := 36) C hk hi dX12_drop_36 ?_
  refine cl_RX12_35 (pc := 37) C (c_X12_at l z ((gI S 0 b9 ((2 : Int32)).toNatClampNeg)) S _ hw) ⟨Nat.le_of_ble_eq_true rfl, Nat.le_of_ble_eq_true rfl⟩ dX12_drop_37 (Nat.le_of_ble_eq_true rfl) (fun v S' hp => ?_)
  clear hw
  obtain ⟨hS, e10, rfl, hw⟩ := hp
  subst S'
  refine G_icmp_ge (pc := 40) C 64 dX12_drop_40 (by decide) (fun hc => ?_) (fun hc => ?_)
  · have hw := hw.1 hc
    refine G_aload_n (pc := 64) C 0 dX12_drop_64 rfl rfl ?_
    obtain ⟨hk, hw⟩ := hw
    refine gf_RX12_7 (pc := 65) C dX12_drop_65 hk ?_
    refine G_iconst (pc := 68) C (v := 2) dX12_drop_68 (by decide) ?_
    obtain ⟨b12, hq, hw⟩ := hw
    rw [hq]
    obtain ⟨hk, hi, hw⟩ := hw
    refine G_iald (pc := 69) C hk hi dX12_drop_69 ?_
    exact G_iret (pc := 70) C rfl dX12_drop_70 ⟨_, rfl, hw⟩
  · have hw := hw.2 hc
    refine G_aload_n (pc := 43) C 0 dX12_drop_43 rfl rfl ?_
    obtain ⟨hk, hw⟩ := hw
    refine gf_RX12_7 (pc := 44) C dX12_drop_44 hk ?_
    refine G_iload_n (pc := 47) C 1 dX12_drop_47 rfl rfl ?_
    refine G_aload_n (pc := 48) C 0 dX12_drop_48 rfl rfl ?_
    obtain ⟨hk, hw⟩ := hw
    refine gf_RX12_7 (pc := 49) C dX12_drop_49 hk ?_
    refine G_iload_n (pc := 52) C 1 dX12_drop_52 rfl rfl ?_
    refine G_bipush (pc := 53) C (v := 15) dX12_drop_53 (by decide) ?_
    refine G_iadd (pc := 55) C dX12_drop_55 ?_
    obtain ⟨b13, hq, hw⟩ := hw
    rw [hq]
    obtain ⟨hk, hi, hw⟩ := hw
    refine G_iald (pc := 56) C hk hi dX12_drop_56 ?_
    obtain ⟨hk, hi, hw⟩ := hw
    refine G_iast (pc := 57) C hk hi dX12_drop_57 ?_
    obtain ⟨S14, hS14⟩ : ∃ y : Hp, y = sI S 0 b13 (v2).toNatClampNeg (gI S 0 b13 ((v2 + (15 : Int32))).toNatClampNeg) := ⟨_, rfl⟩
    have hw := hw S14 hS14
    rw [← hS14]
    clear hS14
    obtain ⟨e15, he15⟩ : ∃ y : Int32, y = (v2 + 1) := ⟨_, rfl⟩
    have hw := hw e15 he15
    refine G_iinc (pc := 58) C [(2, .int (e15)), (0, .ref (v0))] 1 (v := e15) dX12_drop_58 rfl (by rw [he15]; rfl) (by decide) rfl ?_
    clear he15
    refine G_goto (pc := 61) C 30 dX12_drop_61 (by decide) ?_
    exact G_sub [1, 0] rfl (hK30 _ _ hw)
set_option maxHeartbeats 4000000 in
set_option maxRecDepth 100000 in
theorem g_X12_drop_30 (C : Cx p s m args meth c z cX12_drop 3 RX12 (some .int) "drop")  {Q : Int32 → Hp → Prop} {v0 : Nat} {v2 : Int32} {S : Hp}   (hw : wp_X12_drop_30  Q v0 v2 S) : Go p l e { frames := 2, cells := 0, slots := 0, locals := 46 } s m args below meth c z 3 (MQ below (Qx z (wI Q)) args s 0 0 (own z)) (0) (0) 30 [(0, .ref (v0)), (2, .int (v2))] [] (S) :=
  Lp_go (G := fun y : Int32 × Hp => Go p l e { frames := 2, cells := 0, slots := 0, locals := 46 } s m args below meth c z 3 (MQ below (Qx z (wI Q)) args s 0 0 (own z)) (0) (0) 30 [(0, .ref (v0)), (2, .int (y.1))] [] (y.2)) (fun K y hK hB => gb_X12_drop_30 C  (fun w0 w1 h => hK (w0, w1) h) hB) hw
set_option maxHeartbeats 4000000 in
set_option maxRecDepth 100000 in
theorem c_X12_drop (l : Launch) (z : Zt) (a0 : Nat) (x1 : Int32) (S : Hp) (Q : Int32 → Hp → Prop) (hw : wp_X12_drop a0 x1 S Q) : Ct l z yX12_drop cX12_drop 3 (some .int) 2 46 0 0 [.ref (a0), .int (x1)] S (wI Q) := by
  refine Ct_of (by decide) (Nat.le_of_ble_eq_true rfl) ?_
  intro p e s m args below meth c C
  have C : Cx p s m args meth c z cX12_drop 3 RX12 (some .int) "drop" := C
  refine G_sub (lv' := [(0, .ref (a0)), (1, .int (x1))]) [0, 1] rfl ?_
  refine G_aload_n (pc := 0) C 0 dX12_drop_0 rfl rfl ?_
  refine G_iload_n (pc := 1) C 1 dX12_drop_1 rfl rfl ?_
  obtain ⟨hk, hw⟩ := hw
  refine cl_RX12_111 (pc := 2) C (c_X12_isPart l z (a0) (x1) S _ hw) ⟨Nat.le_of_ble_eq_true rfl, Nat.le_of_ble_eq_true rfl⟩ hk dX12_drop_2 (Nat.le_of_ble_eq_true rfl) (fun v S' hp => ?_)
  clear hw
  obtain ⟨hS, e1, rfl, hw⟩ := hp
  subst S'
  refine G_if_ne (pc := 5) C 11 dX12_drop_5 (by decide) (fun hc => ?_) (fun hc => ?_)
  · have hw := hw.1 hc
    refine G_aload_n (pc := 11) C 0 dX12_drop_11 rfl rfl ?_
    obtain ⟨hk, hw⟩ := hw
    refine cl_RX12_120 (pc := 12) C (c_X12_notes l z (a0) S _ hw) ⟨Nat.le_of_ble_eq_true rfl, Nat.le_of_ble_eq_true rfl⟩ hk dX12_drop_12 (Nat.le_of_ble_eq_true rfl) (fun v S' hp => ?_)
    clear hw
    obtain ⟨rfl, hw⟩ := hp
    generalize S' = S4 at hw ⊢
    refine G_aload_n (pc := 15) C 0 dX12_drop_15 rfl rfl ?_
    obtain ⟨hk, hw⟩ := hw
    refine gf_RX12_7 (pc := 16) C dX12_drop_16 hk ?_
    refine G_iconst (pc := 19) C (v := 2) dX12_drop_19 (by decide) ?_
    obtain ⟨b5, hq, hw⟩ := hw
    rw [hq]
    refine G_dup2 (pc := 20) C dX12_drop_20 rfl rfl ?_
    obtain ⟨hk, hi, hw⟩ := hw
    refine G_iald (pc := 21) C hk hi dX12_drop_21 ?_
    refine G_iconst (pc := 22) C (v := 1) dX12_drop_22 (by decide) ?_
    refine G_isub (pc := 23) C dX12_drop_23 ?_
    obtain ⟨hk, hi, hw⟩ := hw
    refine G_iast (pc := 24) C hk hi dX12_drop_24 ?_
    obtain ⟨S6, hS6⟩ : ∃ y : Hp, y = sI S4 0 b5 ((2 : Int32)).toNatClampNeg ((gI S4 0 b5 ((2 : Int32)).toNatClampNeg) - (1 : Int32)) := ⟨_, rfl⟩
    have hw := hw S6 hS6
    rw [← hS6]
    clear hS6
    refine G_iload_n (pc := 25) C 1 dX12_drop_25 rfl rfl ?_
    refine cl_RX12_35 (pc := 26) C (c_X12_at l z (x1) S6 _ hw) ⟨Nat.le_of_ble_eq_true rfl, Nat.le_of_ble_eq_true rfl⟩ dX12_drop_26 (Nat.le_of_ble_eq_true rfl) (fun v S' hp => ?_)
    clear hw
    obtain ⟨hS, e7, rfl, hw⟩ := hp
    subst S'
    refine G_istore_n (pc := 29) C [(2, .int (e7)), (0, .ref (a0)), (1, .int (x1))] dX12_drop_29 rfl (by decide) rfl ?_
    exact G_sub [1, 0] rfl (g_X12_drop_30 C  hw)
  · have hw := hw.2 hc
    refine G_bipush (pc := 8) C (v := -2) dX12_drop_8 (by decide) ?_
    exact G_iret (pc := 10) C rfl dX12_drop_10 ⟨_, rfl, hw⟩
/-! FirstPartsModel.value(III)I -/
abbrev wp_X12_value (x0 : Int32) (x1 : Int32) (x2 : Int32) (S : Hp) (Q : Int32 → Prop) : Prop :=
  ¬ (29 : Int32) = 0 ∧ Q (((x0 * x1) + x2) - ((x0 * x1) + x2) / (29 : Int32) * (29 : Int32))
set_option maxHeartbeats 4000000 in
set_option maxRecDepth 100000 in
theorem c_X12_value (l : Launch) (z : Zt) (x0 : Int32) (x1 : Int32) (x2 : Int32) (S : Hp) (Q : Int32 → Prop) (hw : wp_X12_value x0 x1 x2 S Q) : Ct l z yX12_value cX12_value 3 (some .int) 0 0 0 0 [.int (x0), .int (x1), .int (x2)] S (pI S Q) := by
  refine Ct_of (by decide) (Nat.le_of_ble_eq_true rfl) ?_
  intro p e s m args below meth c C
  have C : Cx p s m args meth c z cX12_value 3 RX12 (some .int) "value" := C
  refine G_sub (lv' := [(0, .int (x0)), (1, .int (x1)), (2, .int (x2))]) [0, 1, 2] rfl ?_
  refine G_iload_n (pc := 0) C 0 dX12_value_0 rfl rfl ?_
  refine G_iload_n (pc := 1) C 1 dX12_value_1 rfl rfl ?_
  refine G_imul (pc := 2) C dX12_value_2 ?_
  refine G_iload_n (pc := 3) C 2 dX12_value_3 rfl rfl ?_
  refine G_iadd (pc := 4) C dX12_value_4 ?_
  refine G_bipush (pc := 5) C (v := 29) dX12_value_5 (by decide) ?_
  obtain ⟨h0, hw⟩ := hw
  refine G_irem (pc := 7) C dX12_value_7 h0 ?_
  exact G_iret (pc := 8) C rfl dX12_value_8 ⟨rfl, _, rfl, hw⟩
/-! FirstPartsModel.packs(II)V -/
abbrev wp_X12_packs_100 (K18 : Int32 → Hp → Prop) (K31 : Int32 → Hp → Prop) (K51 : Int32 → Int32 → Hp → Prop) (Q : Hp → Prop) (v0 : Nat) (v1 : Int32) (v2 : Int32) (v3 : Int32) (v4 : Int32) (v5 : Int32) (v6 : Int32) (v8 : Int32) (s0 : Int32) (s1 : Int32) (s2 : Int32) (S : Hp) : Prop :=
  wp_X12_value (s2) (s1) (s0) S (fun e17 => ∀ e19 : Int32, e19 = (v8 + (-1)) → K51 (e17) (e19) (S))
abbrev wb_X12_packs_51 (K18 : Int32 → Hp → Prop) (K31 : Int32 → Hp → Prop) (K51 : Int32 → Int32 → Hp → Prop) (Q : Hp → Prop) (v0 : Nat) (v1 : Int32) (v2 : Int32) (v3 : Int32) (v4 : Int32) (v5 : Int32) (v6 : Int32) (v7 : Int32) (v8 : Int32) (S : Hp) : Prop :=
  ((v8 < 0 → kd S v0 = 13 ∧ ∃ b10, (gR S 193 v0 0) = some b10 ∧ kd S b10 = 20 ∧ vp_in ((((130 : Int32) + ((40 : Int32) * v6)) + v2) + v5) (ln S b10) ∧ ∀ S11 : Hp, S11 = sI S 0 b10 (((((130 : Int32) + ((40 : Int32) * v6)) + v2) + v5)).toNatClampNeg v7 → kd S11 v0 = 13 ∧ ∃ b12, (gR S11 193 v0 0) = some b12 ∧ kd S11 b12 = 20 ∧ vp_in ((((450 : Int32) + ((40 : Int32) * v6)) + v2) + v5) (ln S11 b12) ∧ ∀ S13 : Hp, S13 = sI S11 0 b12 (((((450 : Int32) + ((40 : Int32) * v6)) + v2) + v5)).toNatClampNeg v7 → ∀ e14 : Int32, e14 = (v6 + 1) → K31 (e14) (S13)) ∧ (¬ v8 < 0 → ∀ e15 : Int32, e15 = ((v4 * v5) + v8) → kd S v0 = 13 ∧ ∃ b16, (gR S 193 v0 0) = some b16 ∧ kd S b16 = 20 ∧ vp_in (v3 + (0 : Int32)) (ln S b16) ∧ (((gI S 0 b16 ((v3 + (0 : Int32))).toNatClampNeg) ≤ e15 → wp_X12_packs_100 K18 K31 K51 Q (v0) (v1) (v2) (v3) (v4) (v5) (v6) (v8) ((0 : Int32)) ((v6 + (1 : Int32))) (v7) (S)) ∧ (¬ (gI S 0 b16 ((v3 + (0 : Int32))).toNatClampNeg) ≤ e15 → kd S v0 = 13 ∧ ∃ b20, (gR S 193 v0 0) = some b20 ∧ kd S b20 = 20 ∧ vp_in ((v3 + (3 : Int32)) + e15) (ln S b20) ∧ wp_X12_packs_100 K18 K31 K51 Q (v0) (v1) (v2) (v3) (v4) (v5) (v6) (v8) ((gI S 0 b20 (((v3 + (3 : Int32)) + e15)).toNatClampNeg)) ((v6 + (1 : Int32))) (v7) (S)))))
abbrev wp_X12_packs_51 (K18 : Int32 → Hp → Prop) (K31 : Int32 → Hp → Prop) (Q : Hp → Prop) (v0 : Nat) (v1 : Int32) (v2 : Int32) (v3 : Int32) (v4 : Int32) (v5 : Int32) (v6 : Int32) (v7 : Int32) (v8 : Int32) (S : Hp) : Prop :=
  Lp (X := Int32 × Int32 × Hp) (fun K y => wb_X12_packs_51 K18 K31 (fun w0 w1 w2 => K (w0, w1, w2)) Q v0 v1 v2 v3 v4 v5 v6 y.1 y.2.1 y.2.2) (v7, v8, S)
abbrev wb_X12_packs_31 (K18 : Int32 → Hp → Prop) (K31 : Int32 → Hp → Prop) (Q : Hp → Prop) (v0 : Nat) (v1 : Int32) (v2 : Int32) (v3 : Int32) (v4 : Int32) (v5 : Int32) (v6 : Int32) (S : Hp) : Prop :=
  kd S v0 = 13 ∧ ∃ b7, (gR S 193 v0 0) = some b7 ∧ kd S b7 = 20 ∧ vp_in (0 : Int32) (ln S b7) ∧ (((gI S 0 b7 ((0 : Int32)).toNatClampNeg) ≤ v6 → ∀ e8 : Int32, e8 = (v5 + 1) → K18 (e8) (S)) ∧ (¬ (gI S 0 b7 ((0 : Int32)).toNatClampNeg) ≤ v6 → ∀ e9 : Int32, e9 = (v4 - (1 : Int32)) → wp_X12_packs_51 K18 K31 Q (v0) (v1) (v2) (v3) (v4) (v5) (v6) ((0 : Int32)) (e9) (S)))
abbrev wp_X12_packs_31 (K18 : Int32 → Hp → Prop) (Q : Hp → Prop) (v0 : Nat) (v1 : Int32) (v2 : Int32) (v3 : Int32) (v4 : Int32) (v5 : Int32) (v6 : Int32) (S : Hp) : Prop :=
  Lp (X := Int32 × Hp) (fun K y => wb_X12_packs_31 K18 (fun w0 w1 => K (w0, w1)) Q v0 v1 v2 v3 v4 v5 y.1 y.2) (v6, S)
abbrev wb_X12_packs_18  (K18 : Int32 → Hp → Prop) (Q : Hp → Prop) (v0 : Nat) (v1 : Int32) (v2 : Int32) (v3 : Int32) (v4 : Int32) (v5 : Int32) (S : Hp) : Prop :=
  kd S v0 = 13 ∧ wp_X12_stripesOf (v0) (v1) S (fun e5 => ((e5 ≤ v5 → Q S) ∧ (¬ e5 ≤ v5 → wp_X12_packs_31 K18 Q (v0) (v1) (v2) (v3) (v4) (v5) ((0 : Int32)) (S))))
abbrev wp_X12_packs_18  (Q : Hp → Prop) (v0 : Nat) (v1 : Int32) (v2 : Int32) (v3 : Int32) (v4 : Int32) (v5 : Int32) (S : Hp) : Prop :=
  Lp (X := Int32 × Hp) (fun K y => wb_X12_packs_18  (fun w0 w1 => K (w0, w1)) Q v0 v1 v2 v3 v4 y.1 y.2) (v5, S)
abbrev wp_X12_packs (a0 : Nat) (x1 : Int32) (x2 : Int32) (S : Hp) (Q : Hp → Prop) : Prop :=
  wp_X12_at (x1) S (fun e1 => kd S a0 = 13 ∧ ∃ b3, (gR S 193 a0 0) = some b3 ∧ kd S b3 = 20 ∧ vp_in (e1 + (1 : Int32)) (ln S b3) ∧ ∀ e4 : Int32, e4 = (gI S 0 b3 ((e1 + (1 : Int32))).toNatClampNeg) → wp_X12_packs_18 Q (a0) (x1) (x2) (e1) (e4) ((0 : Int32)) (S))
set_option maxHeartbeats 4000000 in
set_option maxRecDepth 100000 in
theorem g_X12_packs_100 (C : Cx p s m args meth c z cX12_packs 10 RX12 none "packs") {K18 : Int32 → Hp → Prop} {K31 : Int32 → Hp → Prop} {K51 : Int32 → Int32 → Hp → Prop} {Q : Hp → Prop} {v0 : Nat} {v1 : Int32} {v2 : Int32} {v3 : Int32} {v4 : Int32} {v5 : Int32} {v6 : Int32} {v8 : Int32} {s0 : Int32} {s1 : Int32} {s2 : Int32} {S : Hp}  (hK18 : ∀ (w5 : Int32) (S2 : Hp), K18 w5 S2 → Go p l e { frames := 2, cells := 0, slots := 0, locals := 42 } s m args below meth c z 10 (MQ below (Qx z (wV Q)) args s 0 0 (own z)) (0) (0) 18 [(0, .ref (v0)), (1, .int (v1)), (2, .int (v2)), (3, .int (v3)), (4, .int (v4)), (5, .int (w5))] [] (S2)) (hK31 : ∀ (w6 : Int32) (S2 : Hp), K31 w6 S2 → Go p l e { frames := 2, cells := 0, slots := 0, locals := 42 } s m args below meth c z 10 (MQ below (Qx z (wV Q)) args s 0 0 (own z)) (0) (0) 31 [(0, .ref (v0)), (1, .int (v1)), (2, .int (v2)), (3, .int (v3)), (4, .int (v4)), (5, .int (v5)), (6, .int (w6))] [] (S2)) (hK51 : ∀ (w7 : Int32) (w8 : Int32) (S2 : Hp), K51 w7 w8 S2 → Go p l e { frames := 2, cells := 0, slots := 0, locals := 42 } s m args below meth c z 10 (MQ below (Qx z (wV Q)) args s 0 0 (own z)) (0) (0) 51 [(0, .ref (v0)), (1, .int (v1)), (2, .int (v2)), (3, .int (v3)), (4, .int (v4)), (5, .int (v5)), (6, .int (v6)), (7, .int (w7)), (8, .int (w8))] [] (S2)) (hw : wp_X12_packs_100 K18 K31 K51 Q v0 v1 v2 v3 v4 v5 v6 v8 s0 s1 s2 S) : Go p l e { frames := 2, cells := 0, slots := 0, locals := 42 } s m args below meth c z 10 (MQ below (Qx z (wV Q)) args s 0 0 (own z)) (0) (0) 100 [(0, .ref (v0)), (1, .int (v1)), (2, .int (v2)), (3, .int (v3)), (4, .int (v4)), (5, .int (v5)), (6, .int (v6)), (8, .int (v8))] [.int (s0), .int (s1), .int (s2)] (S) := by
  refine cl_RX12_132 (pc := 100) C (c_X12_value l z (s2) (s1) (s0) S _ hw) ⟨Nat.le_of_ble_eq_true rfl, Nat.le_of_ble_eq_true rfl⟩ dX12_packs_100 (Nat.le_of_ble_eq_true rfl) (fun v S' hp => ?_)
  clear hw
  obtain ⟨hS, e17, rfl, hw⟩ := hp
  subst S'
  refine G_istore (pc := 103) C [(7, .int (e17)), (0, .ref (v0)), (1, .int (v1)), (2, .int (v2)), (3, .int (v3)), (4, .int (v4)), (5, .int (v5)), (6, .int (v6)), (8, .int (v8))] dX12_packs_103 (by decide) rfl ?_
  obtain ⟨e19, he19⟩ : ∃ y : Int32, y = (v8 + (-1)) := ⟨_, rfl⟩
  have hw := hw e19 he19
  refine G_iinc (pc := 105) C [(8, .int (e19)), (7, .int (e17)), (0, .ref (v0)), (1, .int (v1)), (2, .int (v2)), (3, .int (v3)), (4, .int (v4)), (5, .int (v5)), (6, .int (v6))] 8 (v := e19) dX12_packs_105 rfl (by rw [he19]; rfl) (by decide) rfl ?_
  clear he19
  refine G_goto (pc := 108) C 51 dX12_packs_108 (by decide) ?_
  exact G_sub [2, 3, 4, 5, 6, 7, 8, 1, 0] rfl (hK51 _ _ _ hw)
set_option maxHeartbeats 4000000 in
set_option maxRecDepth 100000 in
theorem gb_X12_packs_51 (C : Cx p s m args meth c z cX12_packs 10 RX12 none "packs") {K18 : Int32 → Hp → Prop} {K31 : Int32 → Hp → Prop} {K51 : Int32 → Int32 → Hp → Prop} {Q : Hp → Prop} {v0 : Nat} {v1 : Int32} {v2 : Int32} {v3 : Int32} {v4 : Int32} {v5 : Int32} {v6 : Int32} {v7 : Int32} {v8 : Int32} {S : Hp}  (hK18 : ∀ (w5 : Int32) (S2 : Hp), K18 w5 S2 → Go p l e { frames := 2, cells := 0, slots := 0, locals := 42 } s m args below meth c z 10 (MQ below (Qx z (wV Q)) args s 0 0 (own z)) (0) (0) 18 [(0, .ref (v0)), (1, .int (v1)), (2, .int (v2)), (3, .int (v3)), (4, .int (v4)), (5, .int (w5))] [] (S2)) (hK31 : ∀ (w6 : Int32) (S2 : Hp), K31 w6 S2 → Go p l e { frames := 2, cells := 0, slots := 0, locals := 42 } s m args below meth c z 10 (MQ below (Qx z (wV Q)) args s 0 0 (own z)) (0) (0) 31 [(0, .ref (v0)), (1, .int (v1)), (2, .int (v2)), (3, .int (v3)), (4, .int (v4)), (5, .int (v5)), (6, .int (w6))] [] (S2)) (hK51 : ∀ (w7 : Int32) (w8 : Int32) (S2 : Hp), K51 w7 w8 S2 → Go p l e { frames := 2, cells := 0, slots := 0, locals := 42 } s m args below meth c z 10 (MQ below (Qx z (wV Q)) args s 0 0 (own z)) (0) (0) 51 [(0, .ref (v0)), (1, .int (v1)), (2, .int (v2)), (3, .int (v3)), (4, .int (v4)), (5, .int (v5)), (6, .int (v6)), (7, .int (w7)), (8, .int (w8))] [] (S2)) (hw : wb_X12_packs_51 K18 K31 K51 Q v0 v1 v2 v3 v4 v5 v6 v7 v8 S) : Go p l e { frames := 2, cells := 0, slots := 0, locals := 42 } s m args below meth c z 10 (MQ below (Qx z (wV Q)) args s 0 0 (own z)) (0) (0) 51 [(0, .ref (v0)), (1, .int (v1)), (2, .int (v2)), (3, .int (v3)), (4, .int (v4)), (5, .int (v5)), (6, .int (v6)), (7, .int (v7)), (8, .int (v8))] [] (S) := by
  refine G_iload (pc := 51) C 8 dX12_packs_51 rfl ?_
  refine G_if_lt (pc := 53) C 111 dX12_packs_53 (by decide) (fun hc => ?_) (fun hc => ?_)
  · have hw := hw.1 hc
    refine G_aload_n (pc := 111) C 0 dX12_packs_111 rfl rfl ?_
    obtain ⟨hk, hw⟩ := hw
    refine gf_RX12_7 (pc := 112) C dX12_packs_112 hk ?_
    refine G_sipush (pc := 115) C (v := 130) dX12_packs_115 (by decide) ?_
    refine G_bipush (pc := 118) C (v := 40) dX12_packs_118 (by decide) ?_
    refine G_iload (pc := 120) C 6 dX12_packs_120 rfl ?_
    refine G_imul (pc := 122) C dX12_packs_122 ?_
    refine G_iadd (pc := 123) C dX12_packs_123 ?_
    refine G_iload_n (pc := 124) C 2 dX12_packs_124 rfl rfl ?_
    refine G_iadd (pc := 125) C dX12_packs_125 ?_
    refine G_iload (pc := 126) C 5 dX12_packs_126 rfl ?_
    refine G_iadd (pc := 128) C dX12_packs_128 ?_
    refine G_iload (pc := 129) C 7 dX12_packs_129 rfl ?_
    obtain ⟨b10, hq, hw⟩ := hw
    rw [hq]
    obtain ⟨hk, hi, hw⟩ := hw
    refine G_iast (pc := 131) C hk hi dX12_packs_131 ?_
    obtain ⟨S11, hS11⟩ : ∃ y : Hp, y = sI S 0 b10 (((((130 : Int32) + ((40 : Int32) * v6)) + v2) + v5)).toNatClampNeg v7 := ⟨_, rfl⟩
    have hw := hw S11 hS11
    rw [← hS11]
    clear hS11
    refine G_aload_n (pc := 132) C 0 dX12_packs_132 rfl rfl ?_
    obtain ⟨hk, hw⟩ := hw
    refine gf_RX12_7 (pc := 133) C dX12_packs_133 hk ?_
    refine G_sipush (pc := 136) C (v := 450) dX12_packs_136 (by decide) ?_
    refine G_bipush (pc := 139) C (v := 40) dX12_packs_139 (by decide) ?_
    refine G_iload (pc := 141) C 6 dX12_packs_141 rfl ?_
    refine G_imul (pc := 143) C dX12_packs_143 ?_
    refine G_iadd (pc := 144) C dX12_packs_144 ?_
    refine G_iload_n (pc := 145) C 2 dX12_packs_145 rfl rfl ?_
    refine G_iadd (pc := 146) C dX12_packs_146 ?_
    refine G_iload (pc := 147) C 5 dX12_packs_147 rfl ?_
    refine G_iadd (pc := 149) C dX12_packs_149 ?_
    refine G_iload (pc := 150) C 7 dX12_packs_150 rfl ?_
    obtain ⟨b12, hq, hw⟩ := hw
    rw [hq]
    obtain ⟨hk, hi, hw⟩ := hw
    refine G_iast (pc := 152) C hk hi dX12_packs_152 ?_
    obtain ⟨S13, hS13⟩ : ∃ y : Hp, y = sI S11 0 b12 (((((450 : Int32) + ((40 : Int32) * v6)) + v2) + v5)).toNatClampNeg v7 := ⟨_, rfl⟩
    have hw := hw S13 hS13
    rw [← hS13]
    clear hS13
    obtain ⟨e14, he14⟩ : ∃ y : Int32, y = (v6 + 1) := ⟨_, rfl⟩
    have hw := hw e14 he14
    refine G_iinc (pc := 153) C [(6, .int (e14)), (0, .ref (v0)), (1, .int (v1)), (2, .int (v2)), (3, .int (v3)), (4, .int (v4)), (5, .int (v5)), (7, .int (v7)), (8, .int (v8))] 6 (v := e14) dX12_packs_153 rfl (by rw [he14]; rfl) (by decide) rfl ?_
    clear he14
    refine G_goto (pc := 156) C 31 dX12_packs_156 (by decide) ?_
    exact G_sub [1, 2, 3, 4, 5, 6, 0] rfl (hK31 _ _ hw)
  · have hw := hw.2 hc
    refine G_iload (pc := 56) C 4 dX12_packs_56 rfl ?_
    refine G_iload (pc := 58) C 5 dX12_packs_58 rfl ?_
    refine G_imul (pc := 60) C dX12_packs_60 ?_
    refine G_iload (pc := 61) C 8 dX12_packs_61 rfl ?_
    refine G_iadd (pc := 63) C dX12_packs_63 ?_
    refine G_topi (fun e15 he15 => ?_)
    have hw := hw e15 he15
    clear he15
    refine G_istore (pc := 64) C [(9, .int (e15)), (0, .ref (v0)), (1, .int (v1)), (2, .int (v2)), (3, .int (v3)), (4, .int (v4)), (5, .int (v5)), (6, .int (v6)), (7, .int (v7)), (8, .int (v8))] dX12_packs_64 (by decide) rfl ?_
    refine G_iload (pc := 66) C 8 dX12_packs_66 rfl ?_
    refine G_iload (pc := 68) C 7 dX12_packs_68 rfl ?_
    refine G_iconst (pc := 70) C (v := 1) dX12_packs_70 (by decide) ?_
    refine G_iadd (pc := 71) C dX12_packs_71 ?_
    refine G_iload (pc := 72) C 0 dX12_packs_72 rfl ?_
    refine G_aload_n (pc := 74) C 1 dX12_packs_74 rfl rfl ?_
    obtain ⟨hk, hw⟩ := hw
    refine gf_RX12_7 (pc := 75) C dX12_packs_75 hk ?_
    refine G_iload_n (pc := 78) C 4 dX12_packs_78 rfl rfl ?_
    refine G_iconst (pc := 79) C (v := 0) dX12_packs_79 (by decide) ?_
    refine G_iadd (pc := 80) C dX12_packs_80 ?_
    obtain ⟨b16, hq, hw⟩ := hw
    rw [hq]
    obtain ⟨hk, hi, hw⟩ := hw
    refine G_iald (pc := 81) C hk hi dX12_packs_81 ?_
    refine G_icmp_ge (pc := 82) C 99 dX12_packs_82 (by decide) (fun hc => ?_) (fun hc => ?_)
    · have hw := hw.1 hc
      refine G_iconst (pc := 99) C (v := 0) dX12_packs_99 (by decide) ?_
      exact G_sub [1, 2, 3, 4, 5, 6, 7, 9] rfl (g_X12_packs_100 C hK18 hK31 hK51 hw)
    · have hw := hw.2 hc
      refine G_aload_n (pc := 85) C 1 dX12_packs_85 rfl rfl ?_
      obtain ⟨hk, hw⟩ := hw
      refine gf_RX12_7 (pc := 86) C dX12_packs_86 hk ?_
      refine G_iload_n (pc := 89) C 4 dX12_packs_89 rfl rfl ?_
      refine G_iconst (pc := 90) C (v := 3) dX12_packs_90 (by decide) ?_
      refine G_iadd (pc := 91) C dX12_packs_91 ?_
      refine G_iload (pc := 92) C 0 dX12_packs_92 rfl ?_
      refine G_iadd (pc := 94) C dX12_packs_94 ?_
      obtain ⟨b20, hq, hw⟩ := hw
      rw [hq]
      obtain ⟨hk, hi, hw⟩ := hw
      refine G_iald (pc := 95) C hk hi dX12_packs_95 ?_
      refine G_goto (pc := 96) C 100 dX12_packs_96 (by decide) ?_
      exact G_sub [1, 2, 3, 4, 5, 6, 7, 9] rfl (g_X12_packs_100 C hK18 hK31 hK51 hw)
set_option maxHeartbeats 4000000 in
set_option maxRecDepth 100000 in
theorem g_X12_packs_51 (C : Cx p s m args meth c z cX12_packs 10 RX12 none "packs") {K18 : Int32 → Hp → Prop} {K31 : Int32 → Hp → Prop} {Q : Hp → Prop} {v0 : Nat} {v1 : Int32} {v2 : Int32} {v3 : Int32} {v4 : Int32} {v5 : Int32} {v6 : Int32} {v7 : Int32} {v8 : Int32} {S : Hp}  (hK18 : ∀ (w5 : Int32) (S2 : Hp), K18 w5 S2 → Go p l e { frames := 2, cells := 0, slots := 0, locals := 42 } s m args below meth c z 10 (MQ below (Qx z (wV Q)) args s 0 0 (own z)) (0) (0) 18 [(0, .ref (v0)), (1, .int (v1)), (2, .int (v2)), (3, .int (v3)), (4, .int (v4)), (5, .int (w5))] [] (S2)) (hK31 : ∀ (w6 : Int32) (S2 : Hp), K31 w6 S2 → Go p l e { frames := 2, cells := 0, slots := 0, locals := 42 } s m args below meth c z 10 (MQ below (Qx z (wV Q)) args s 0 0 (own z)) (0) (0) 31 [(0, .ref (v0)), (1, .int (v1)), (2, .int (v2)), (3, .int (v3)), (4, .int (v4)), (5, .int (v5)), (6, .int (w6))] [] (S2)) (hw : wp_X12_packs_51 K18 K31 Q v0 v1 v2 v3 v4 v5 v6 v7 v8 S) : Go p l e { frames := 2, cells := 0, slots := 0, locals := 42 } s m args below meth c z 10 (MQ below (Qx z (wV Q)) args s 0 0 (own z)) (0) (0) 51 [(0, .ref (v0)), (1, .int (v1)), (2, .int (v2)), (3, .int (v3)), (4, .int (v4)), (5, .int (v5)), (6, .int (v6)), (7, .int (v7)), (8, .int (v8))] [] (S) :=
  Lp_go (G := fun y : Int32 × Int32 × Hp => Go p l e { frames := 2, cells := 0, slots := 0, locals := 42 } s m args below meth c z 10 (MQ below (Qx z (wV Q)) args s 0 0 (own z)) (0) (0) 51 [(0, .ref (v0)), (1, .int (v1)), (2, .int (v2)), (3, .int (v3)), (4, .int (v4)), (5, .int (v5)), (6, .int (v6)), (7, .int (y.1)), (8, .int (y.2.1))] [] (y.2.2)) (fun K y hK hB => gb_X12_packs_51 C hK18 hK31 (fun w0 w1 w2 h => hK (w0, w1, w2) h) hB) hw
set_option maxHeartbeats 4000000 in
set_option maxRecDepth 100000 in
theorem gb_X12_packs_31 (C : Cx p s m args meth c z cX12_packs 10 RX12 none "packs") {K18 : Int32 → Hp → Prop} {K31 : Int32 → Hp → Prop} {Q : Hp → Prop} {v0 : Nat} {v1 : Int32} {v2 : Int32} {v3 : Int32} {v4 : Int32} {v5 : Int32} {v6 : Int32} {S : Hp}  (hK18 : ∀ (w5 : Int32) (S2 : Hp), K18 w5 S2 → Go p l e { frames := 2, cells := 0, slots := 0, locals := 42 } s m args below meth c z 10 (MQ below (Qx z (wV Q)) args s 0 0 (own z)) (0) (0) 18 [(0, .ref (v0)), (1, .int (v1)), (2, .int (v2)), (3, .int (v3)), (4, .int (v4)), (5, .int (w5))] [] (S2)) (hK31 : ∀ (w6 : Int32) (S2 : Hp), K31 w6 S2 → Go p l e { frames := 2, cells := 0, slots := 0, locals := 42 } s m args below meth c z 10 (MQ below (Qx z (wV Q)) args s 0 0 (own z)) (0) (0) 31 [(0, .ref (v0)), (1, .int (v1)), (2, .int (v2)), (3, .int (v3)), (4, .int (v4)), (5, .int (v5)), (6, .int (w6))] [] (S2)) (hw : wb_X12_packs_31 K18 K31 Q v0 v1 v2 v3 v4 v5 v6 S) : Go p l e { frames := 2, cells := 0, slots := 0, locals := 42 } s m args below meth c z 10 (MQ below (Qx z (wV Q)) args s 0 0 (own z)) (0) (0) 31 [(0, .ref (v0)), (1, .int (v1)), (2, .int (v2)), (3, .int (v3)), (4, .int (v4)), (5, .int (v5)), (6, .int (v6))] [] (S) := by
  refine G_iload (pc := 31) C 6 dX12_packs_31 rfl ?_
  refine G_aload_n (pc := 33) C 0 dX12_packs_33 rfl rfl ?_
  obtain ⟨hk, hw⟩ := hw
  refine gf_RX12_7 (pc := 34) C dX12_packs_34 hk ?_
  refine G_iconst (pc := 37) C (v := 0) dX12_packs_37 (by decide) ?_
  obtain ⟨b7, hq, hw⟩ := hw
  rw [hq]
  obtain ⟨hk, hi, hw⟩ := hw
  refine G_iald (pc := 38) C hk hi dX12_packs_38 ?_
  refine G_icmp_ge (pc := 39) C 159 dX12_packs_39 (by decide) (fun hc => ?_) (fun hc => ?_)
  · have hw := hw.1 hc
    obtain ⟨e8, he8⟩ : ∃ y : Int32, y = (v5 + 1) := ⟨_, rfl⟩
    have hw := hw e8 he8
    refine G_iinc (pc := 159) C [(5, .int (e8)), (0, .ref (v0)), (1, .int (v1)), (2, .int (v2)), (3, .int (v3)), (4, .int (v4)), (6, .int (v6))] 5 (v := e8) dX12_packs_159 rfl (by rw [he8]; rfl) (by decide) rfl ?_
    clear he8
    refine G_goto (pc := 162) C 18 dX12_packs_162 (by decide) ?_
    exact G_sub [1, 2, 3, 4, 5, 0] rfl (hK18 _ _ hw)
  · have hw := hw.2 hc
    refine G_iconst (pc := 42) C (v := 0) dX12_packs_42 (by decide) ?_
    refine G_istore (pc := 43) C [(7, .int ((0 : Int32))), (0, .ref (v0)), (1, .int (v1)), (2, .int (v2)), (3, .int (v3)), (4, .int (v4)), (5, .int (v5)), (6, .int (v6))] dX12_packs_43 (by decide) rfl ?_
    refine G_iload (pc := 45) C 5 dX12_packs_45 rfl ?_
    refine G_iconst (pc := 47) C (v := 1) dX12_packs_47 (by decide) ?_
    refine G_isub (pc := 48) C dX12_packs_48 ?_
    refine G_topi (fun e9 he9 => ?_)
    have hw := hw e9 he9
    clear he9
    refine G_istore (pc := 49) C [(8, .int (e9)), (7, .int ((0 : Int32))), (0, .ref (v0)), (1, .int (v1)), (2, .int (v2)), (3, .int (v3)), (4, .int (v4)), (5, .int (v5)), (6, .int (v6))] dX12_packs_49 (by decide) rfl ?_
    exact G_sub [2, 3, 4, 5, 6, 7, 8, 1, 0] rfl (g_X12_packs_51 C hK18 hK31 hw)
set_option maxHeartbeats 4000000 in
set_option maxRecDepth 100000 in
theorem g_X12_packs_31 (C : Cx p s m args meth c z cX12_packs 10 RX12 none "packs") {K18 : Int32 → Hp → Prop} {Q : Hp → Prop} {v0 : Nat} {v1 : Int32} {v2 : Int32} {v3 : Int32} {v4 : Int32} {v5 : Int32} {v6 : Int32} {S : Hp}  (hK18 : ∀ (w5 : Int32) (S2 : Hp), K18 w5 S2 → Go p l e { frames := 2, cells := 0, slots := 0, locals := 42 } s m args below meth c z 10 (MQ below (Qx z (wV Q)) args s 0 0 (own z)) (0) (0) 18 [(0, .ref (v0)), (1, .int (v1)), (2, .int (v2)), (3, .int (v3)), (4, .int (v4)), (5, .int (w5))] [] (S2)) (hw : wp_X12_packs_31 K18 Q v0 v1 v2 v3 v4 v5 v6 S) : Go p l e { frames := 2, cells := 0, slots := 0, locals := 42 } s m args below meth c z 10 (MQ below (Qx z (wV Q)) args s 0 0 (own z)) (0) (0) 31 [(0, .ref (v0)), (1, .int (v1)), (2, .int (v2)), (3, .int (v3)), (4, .int (v4)), (5, .int (v5)), (6, .int (v6))] [] (S) :=
  Lp_go (G := fun y : Int32 × Hp => Go p l e { frames := 2, cells := 0, slots := 0, locals := 42 } s m args below meth c z 10 (MQ below (Qx z (wV Q)) args s 0 0 (own z)) (0) (0) 31 [(0, .ref (v0)), (1, .int (v1)), (2, .int (v2)), (3, .int (v3)), (4, .int (v4)), (5, .int (v5)), (6, .int (y.1))] [] (y.2)) (fun K y hK hB => gb_X12_packs_31 C hK18 (fun w0 w1 h => hK (w0, w1) h) hB) hw
set_option maxHeartbeats 4000000 in
set_option maxRecDepth 100000 in
theorem gb_X12_packs_18 (C : Cx p s m args meth c z cX12_packs 10 RX12 none "packs") {K18 : Int32 → Hp → Prop} {Q : Hp → Prop} {v0 : Nat} {v1 : Int32} {v2 : Int32} {v3 : Int32} {v4 : Int32} {v5 : Int32} {S : Hp}  (hK18 : ∀ (w5 : Int32) (S2 : Hp), K18 w5 S2 → Go p l e { frames := 2, cells := 0, slots := 0, locals := 42 } s m args below meth c z 10 (MQ below (Qx z (wV Q)) args s 0 0 (own z)) (0) (0) 18 [(0, .ref (v0)), (1, .int (v1)), (2, .int (v2)), (3, .int (v3)), (4, .int (v4)), (5, .int (w5))] [] (S2)) (hw : wb_X12_packs_18  K18 Q v0 v1 v2 v3 v4 v5 S) : Go p l e { frames := 2, cells := 0, slots := 0, locals := 42 } s m args below meth c z 10 (MQ below (Qx z (wV Q)) args s 0 0 (own z)) (0) (0) 18 [(0, .ref (v0)), (1, .int (v1)), (2, .int (v2)), (3, .int (v3)), (4, .int (v4)), (5, .int (v5))] [] (S) := by
  refine G_iload (pc := 18) C 5 dX12_packs_18 rfl ?_
  refine G_aload_n (pc := 20) C 0 dX12_packs_20 rfl rfl ?_
  refine G_iload_n (pc := 21) C 1 dX12_packs_21 rfl rfl ?_
  obtain ⟨hk, hw⟩ := hw
  refine cl_RX12_43 (pc := 22) C (c_X12_stripesOf l z (v0) (v1) S _ hw) ⟨Nat.le_of_ble_eq_true rfl, Nat.le_of_ble_eq_true rfl⟩ hk dX12_packs_22 (Nat.le_of_ble_eq_true rfl) (fun v S' hp => ?_)
  clear hw
  obtain ⟨hS, e5, rfl, hw⟩ := hp
  subst S'
  refine G_icmp_ge (pc := 25) C 165 dX12_packs_25 (by decide) (fun hc => ?_) (fun hc => ?_)
  · have hw := hw.1 hc
    exact G_vret (pc := 165) C rfl dX12_packs_165 ⟨rfl, hw⟩
  · have hw := hw.2 hc
    refine G_iconst (pc := 28) C (v := 0) dX12_packs_28 (by decide) ?_
    refine G_istore (pc := 29) C [(6, .int ((0 : Int32))), (0, .ref (v0)), (1, .int (v1)), (2, .int (v2)), (3, .int (v3)), (4, .int (v4)), (5, .int (v5))] dX12_packs_29 (by decide) rfl ?_
    exact G_sub [1, 2, 3, 4, 5, 6, 0] rfl (g_X12_packs_31 C hK18 hw)
set_option maxHeartbeats 4000000 in
set_option maxRecDepth 100000 in
theorem g_X12_packs_18 (C : Cx p s m args meth c z cX12_packs 10 RX12 none "packs")  {Q : Hp → Prop} {v0 : Nat} {v1 : Int32} {v2 : Int32} {v3 : Int32} {v4 : Int32} {v5 : Int32} {S : Hp}   (hw : wp_X12_packs_18  Q v0 v1 v2 v3 v4 v5 S) : Go p l e { frames := 2, cells := 0, slots := 0, locals := 42 } s m args below meth c z 10 (MQ below (Qx z (wV Q)) args s 0 0 (own z)) (0) (0) 18 [(0, .ref (v0)), (1, .int (v1)), (2, .int (v2)), (3, .int (v3)), (4, .int (v4)), (5, .int (v5))] [] (S) :=
  Lp_go (G := fun y : Int32 × Hp => Go p l e { frames := 2, cells := 0, slots := 0, locals := 42 } s m args below meth c z 10 (MQ below (Qx z (wV Q)) args s 0 0 (own z)) (0) (0) 18 [(0, .ref (v0)), (1, .int (v1)), (2, .int (v2)), (3, .int (v3)), (4, .int (v4)), (5, .int (y.1))] [] (y.2)) (fun K y hK hB => gb_X12_packs_18 C  (fun w0 w1 h => hK (w0, w1) h) hB) hw
set_option maxHeartbeats 4000000 in
set_option maxRecDepth 100000 in
theorem c_X12_packs (l : Launch) (z : Zt) (a0 : Nat) (x1 : Int32) (x2 : Int32) (S : Hp) (Q : Hp → Prop) (hw : wp_X12_packs a0 x1 x2 S Q) : Ct l z yX12_packs cX12_packs 10 none 2 42 0 0 [.ref (a0), .int (x1), .int (x2)] S (wV Q) := by
  refine Ct_of (by decide) (Nat.le_of_ble_eq_true rfl) ?_
  intro p e s m args below meth c C
  have C : Cx p s m args meth c z cX12_packs 10 RX12 none "packs" := C
  refine G_sub (lv' := [(0, .ref (a0)), (1, .int (x1)), (2, .int (x2))]) [0, 1, 2] rfl ?_
  refine G_iload_n (pc := 0) C 1 dX12_packs_0 rfl rfl ?_
  refine cl_RX12_35 (pc := 1) C (c_X12_at l z (x1) S _ hw) ⟨Nat.le_of_ble_eq_true rfl, Nat.le_of_ble_eq_true rfl⟩ dX12_packs_1 (Nat.le_of_ble_eq_true rfl) (fun v S' hp => ?_)
  clear hw
  obtain ⟨hS, e1, rfl, hw⟩ := hp
  subst S'
  refine G_istore_n (pc := 4) C [(3, .int (e1)), (0, .ref (a0)), (1, .int (x1)), (2, .int (x2))] dX12_packs_4 rfl (by decide) rfl ?_
  refine G_aload_n (pc := 5) C 1 dX12_packs_5 rfl rfl ?_
  obtain ⟨hk, hw⟩ := hw
  refine gf_RX12_7 (pc := 6) C dX12_packs_6 hk ?_
  refine G_iload_n (pc := 9) C 0 dX12_packs_9 rfl rfl ?_
  refine G_iconst (pc := 10) C (v := 1) dX12_packs_10 (by decide) ?_
  refine G_iadd (pc := 11) C dX12_packs_11 ?_
  obtain ⟨b3, hq, hw⟩ := hw
  rw [hq]
  obtain ⟨hk, hi, hw⟩ := hw
  refine G_iald (pc := 12) C hk hi dX12_packs_12 ?_
  refine G_topi (fun e4 he4 => ?_)
  have hw := hw e4 he4
  clear he4
  refine G_istore (pc := 13) C [(4, .int (e4)), (3, .int (e1)), (0, .ref (a0)), (1, .int (x1)), (2, .int (x2))] dX12_packs_13 (by decide) rfl ?_
  refine G_iconst (pc := 15) C (v := 0) dX12_packs_15 (by decide) ?_
  refine G_istore (pc := 16) C [(5, .int ((0 : Int32))), (4, .int (e4)), (3, .int (e1)), (0, .ref (a0)), (1, .int (x1)), (2, .int (x2))] dX12_packs_16 (by decide) rfl ?_
  exact G_sub [3, 4, 5, 2, 1, 0] rfl (g_X12_packs_18 C  hw)
/-! FirstPartsModel.pack()I -/
abbrev wp_X12_pack_16  (Q : Int32 → Hp → Prop)  (S : Hp) : Prop :=
  Q (-4 : Int32) S
abbrev wb_X12_pack_172  (K172 : Int32 → Hp → Prop) (Q : Int32 → Hp → Prop) (v0 : Nat) (v1 : Int32) (v2 : Int32) (S : Hp) : Prop :=
  (((8 : Int32) ≤ v2 → Q v1 S) ∧ (¬ (8 : Int32) ≤ v2 → kd S v0 = 13 ∧ ∃ b12, (gR S 193 v0 0) = some b12 ∧ kd S b12 = 20 ∧ vp_in ((114 : Int32) + v2) (ln S b12) ∧ ∀ S13 : Hp, S13 = sI S 0 b12 (((114 : Int32) + v2)).toNatClampNeg (0 : Int32) → kd S13 v0 = 13 ∧ ∃ b14, (gR S13 193 v0 0) = some b14 ∧ kd S13 b14 = 20 ∧ vp_in ((122 : Int32) + v2) (ln S13 b14) ∧ ∀ S15 : Hp, S15 = sI S13 0 b14 (((122 : Int32) + v2)).toNatClampNeg v1 → ∀ e16 : Int32, e16 = (v2 + 1) → K172 (e16) (S15)))
abbrev wp_X12_pack_172  (Q : Int32 → Hp → Prop) (v0 : Nat) (v1 : Int32) (v2 : Int32) (S : Hp) : Prop :=
  Lp (X := Int32 × Hp) (fun K y => wb_X12_pack_172  (fun w0 w1 => K (w0, w1)) Q v0 v1 y.1 y.2) (v2, S)
abbrev wp_X12_pack_150 (K53 : Int32 → Int32 → Hp → Prop) (K61 : Int32 → Int32 → Hp → Prop) (Q : Int32 → Hp → Prop) (v0 : Nat) (v1 : Int32) (v2 : Int32) (v3 : Int32) (S : Hp) : Prop :=
  ∀ e22 : Int32, e22 = (v3 + 1) → K61 (v1) (e22) (S)
abbrev wb_X12_pack_61 (K53 : Int32 → Int32 → Hp → Prop) (K61 : Int32 → Int32 → Hp → Prop) (Q : Int32 → Hp → Prop) (v0 : Nat) (v1 : Int32) (v2 : Int32) (v3 : Int32) (S : Hp) : Prop :=
  kd S v0 = 13 ∧ ∃ b17, (gR S 193 v0 0) = some b17 ∧ kd S b17 = 20 ∧ vp_in (2 : Int32) (ln S b17) ∧ (((gI S 0 b17 ((2 : Int32)).toNatClampNeg) ≤ v3 → ∀ e18 : Int32, e18 = (v2 + 1) → K53 (v1) (e18) (S)) ∧ (¬ (gI S 0 b17 ((2 : Int32)).toNatClampNeg) ≤ v3 → kd S v0 = 13 ∧ ∃ b21, (gR S 193 v0 0) = some b21 ∧ wp_X12_at (v3) S (fun e19 => kd S b21 = 20 ∧ vp_in (e19 + (1 : Int32)) (ln S b21) ∧ (((gI S 0 b21 ((e19 + (1 : Int32))).toNatClampNeg) ≠ v2 → wp_X12_pack_150 K53 K61 Q (v0) (v1) (v2) (v3) (S)) ∧ ((gI S 0 b21 ((e19 + (1 : Int32))).toNatClampNeg) = v2 → kd S v0 = 13 ∧ kd S v0 = 13 ∧ ∃ b25, (gR S 193 v0 0) = some b25 ∧ wp_X12_at (v3) S (fun e23 => kd S b25 = 20 ∧ vp_in (e23 + (0 : Int32)) (ln S b25) ∧ kd S b25 = 20 ∧ vp_in ((96 : Int32) + ((3 : Int32) * v3)) (ln S b25) ∧ ∀ S26 : Hp, S26 = sI S 0 b25 (((96 : Int32) + ((3 : Int32) * v3))).toNatClampNeg (gI S 0 b25 ((e23 + (0 : Int32))).toNatClampNeg) → kd S26 v0 = 13 ∧ ∃ b27, (gR S26 193 v0 0) = some b27 ∧ kd S26 b27 = 20 ∧ vp_in (((96 : Int32) + ((3 : Int32) * v3)) + (1 : Int32)) (ln S26 b27) ∧ ∀ S28 : Hp, S28 = sI S26 0 b27 ((((96 : Int32) + ((3 : Int32) * v3)) + (1 : Int32))).toNatClampNeg v2 → kd S28 v0 = 13 ∧ ∃ b29, (gR S28 193 v0 0) = some b29 ∧ kd S28 b29 = 20 ∧ vp_in (((96 : Int32) + ((3 : Int32) * v3)) + (2 : Int32)) (ln S28 b29) ∧ ∀ S30 : Hp, S30 = sI S28 0 b29 ((((96 : Int32) + ((3 : Int32) * v3)) + (2 : Int32))).toNatClampNeg v1 → kd S30 v0 = 13 ∧ wp_X12_packs (v0) (v3) (v1) S30 (fun S32 => kd S32 v0 = 13 ∧ wp_X12_stripesOf (v0) (v3) S32 (fun e33 => ∀ e35 : Int32, e35 = (v1 + e33) → wp_X12_pack_150 K53 K61 Q (v0) (e35) (v2) (v3) (S32)))))))))
abbrev wp_X12_pack_61 (K53 : Int32 → Int32 → Hp → Prop) (Q : Int32 → Hp → Prop) (v0 : Nat) (v1 : Int32) (v2 : Int32) (v3 : Int32) (S : Hp) : Prop :=
  Lp (X := Int32 × Int32 × Hp) (fun K y => wb_X12_pack_61 K53 (fun w0 w1 w2 => K (w0, w1, w2)) Q v0 y.1 v2 y.2.1 y.2.2) (v1, v3, S)
abbrev wb_X12_pack_53  (K53 : Int32 → Int32 → Hp → Prop) (Q : Int32 → Hp → Prop) (v0 : Nat) (v1 : Int32) (v2 : Int32) (S : Hp) : Prop :=
  (((9 : Int32) ≤ v2 → kd S v0 = 13 ∧ ∃ b10, (gR S 193 v0 0) = some b10 ∧ kd S b10 = 20 ∧ vp_in (95 : Int32) (ln S b10) ∧ ∀ S11 : Hp, S11 = sI S 0 b10 ((95 : Int32)).toNatClampNeg v1 → wp_X12_pack_172 Q (v0) (v1) ((0 : Int32)) (S11)) ∧ (¬ (9 : Int32) ≤ v2 → wp_X12_pack_61 K53 Q (v0) (v1) (v2) ((0 : Int32)) (S)))
abbrev wp_X12_pack_53  (Q : Int32 → Hp → Prop) (v0 : Nat) (v1 : Int32) (v2 : Int32) (S : Hp) : Prop :=
  Lp (X := Int32 × Int32 × Hp) (fun K y => wb_X12_pack_53  (fun w0 w1 w2 => K (w0, w1, w2)) Q v0 y.1 y.2.1 y.2.2) (v1, v2, S)
abbrev wp_X12_pack (a0 : Nat) (S : Hp) (Q : Int32 → Hp → Prop) : Prop :=
  kd S a0 = 13 ∧ ∃ b1, (gR S 193 a0 0) = some b1 ∧ kd S b1 = 20 ∧ vp_in (2 : Int32) (ln S b1) ∧ (((gI S 0 b1 ((2 : Int32)).toNatClampNeg) = 0 → wp_X12_pack_16 Q (S)) ∧ (¬ (gI S 0 b1 ((2 : Int32)).toNatClampNeg) = 0 → kd S a0 = 13 ∧ wp_X12_isFit (a0) S (fun e2 => ((e2 ≠ 0 → kd S a0 = 13 ∧ wp_X12_notes (a0) S (fun S5 => kd S5 a0 = 13 ∧ kd S5 a0 = 13 ∧ ∃ b6, (gR S5 193 a0 0) = some b6 ∧ kd S5 b6 = 20 ∧ vp_in (2 : Int32) (ln S5 b6) ∧ kd S5 b6 = 20 ∧ vp_in (93 : Int32) (ln S5 b6) ∧ ∀ S7 : Hp, S7 = sI S5 0 b6 ((93 : Int32)).toNatClampNeg (gI S5 0 b6 ((2 : Int32)).toNatClampNeg) → kd S7 a0 = 13 ∧ kd S7 a0 = 13 ∧ ∃ b8, (gR S7 193 a0 0) = some b8 ∧ kd S7 b8 = 20 ∧ vp_in (0 : Int32) (ln S7 b8) ∧ kd S7 b8 = 20 ∧ vp_in (94 : Int32) (ln S7 b8) ∧ ∀ S9 : Hp, S9 = sI S7 0 b8 ((94 : Int32)).toNatClampNeg (gI S7 0 b8 ((0 : Int32)).toNatClampNeg) → wp_X12_pack_53 Q (a0) ((0 : Int32)) ((1 : Int32)) (S9))) ∧ (e2 = 0 → wp_X12_pack_16 Q (S))))))
set_option maxHeartbeats 4000000 in
set_option maxRecDepth 100000 in
theorem g_X12_pack_16 (C : Cx p s m args meth c z cX12_pack 4 RX12 (some .int) "pack")  {Q : Int32 → Hp → Prop}  {S : Hp}   (hw : wp_X12_pack_16  Q  S) : Go p l e { frames := 4, cells := 0, slots := 0, locals := 87 } s m args below meth c z 4 (MQ below (Qx z (wI Q)) args s 0 0 (own z)) (0) (0) 16 [] [] (S) := by
  refine G_bipush (pc := 16) C (v := -4) dX12_pack_16 (by decide) ?_
  exact G_iret (pc := 18) C rfl dX12_pack_18 ⟨_, rfl, hw⟩
set_option maxHeartbeats 4000000 in
set_option maxRecDepth 100000 in
theorem gb_X12_pack_172 (C : Cx p s m args meth c z cX12_pack 4 RX12 (some .int) "pack") {K172 : Int32 → Hp → Prop} {Q : Int32 → Hp → Prop} {v0 : Nat} {v1 : Int32} {v2 : Int32} {S : Hp}  (hK172 : ∀ (w2 : Int32) (S2 : Hp), K172 w2 S2 → Go p l e { frames := 4, cells := 0, slots := 0, locals := 87 } s m args below meth c z 4 (MQ below (Qx z (wI Q)) args s 0 0 (own z)) (0) (0) 172 [(0, .ref (v0)), (1, .int (v1)), (2, .int (w2))] [] (S2)) (hw : wb_X12_pack_172  K172 Q v0 v1 v2 S) : Go p l e { frames := 4, cells := 0, slots := 0, locals := 87 } s m args below meth c z 4 (MQ below (Qx z (wI Q)) args s 0 0 (own z)) (0) (0) 172 [(0, .ref (v0)), (1, .int (v1)), (2, .int (v2))] [] (S) := by
  refine G_iload_n (pc := 172) C 2 dX12_pack_172 rfl rfl ?_
  refine G_bipush (pc := 173) C (v := 8) dX12_pack_173 (by decide) ?_
  refine G_icmp_ge (pc := 175) C 204 dX12_pack_175 (by decide) (fun hc => ?_) (fun hc => ?_)
  · have hw := hw.1 hc
    refine G_iload_n (pc := 204) C 1 dX12_pack_204 rfl rfl ?_
    exact G_iret (pc := 205) C rfl dX12_pack_205 ⟨_, rfl, hw⟩
  · have hw := hw.2 hc
    refine G_aload_n (pc := 178) C 0 dX12_pack_178 rfl rfl ?_
    obtain ⟨hk, hw⟩ := hw
    refine gf_RX12_7 (pc := 179) C dX12_pack_179 hk ?_
    refine G_bipush (pc := 182) C (v := 114) dX12_pack_182 (by decide) ?_
    refine G_iload_n (pc := 184) C 2 dX12_pack_184 rfl rfl ?_
    refine G_iadd (pc := 185) C dX12_pack_185 ?_
    refine G_iconst (pc := 186) C (v := 0) dX12_pack_186 (by decide) ?_
    obtain ⟨b12, hq, hw⟩ := hw
    rw [hq]
    obtain ⟨hk, hi, hw⟩ := hw
    refine G_iast (pc := 187) C hk hi dX12_pack_187 ?_
    obtain ⟨S13, hS13⟩ : ∃ y : Hp, y = sI S 0 b12 (((114 : Int32) + v2)).toNatClampNeg (0 : Int32) := ⟨_, rfl⟩
    have hw := hw S13 hS13
    rw [← hS13]
    clear hS13
    refine G_aload_n (pc := 188) C 0 dX12_pack_188 rfl rfl ?_
    obtain ⟨hk, hw⟩ := hw
    refine gf_RX12_7 (pc := 189) C dX12_pack_189 hk ?_
    refine G_bipush (pc := 192) C (v := 122) dX12_pack_192 (by decide) ?_
    refine G_iload_n (pc := 194) C 2 dX12_pack_194 rfl rfl ?_
    refine G_iadd (pc := 195) C dX12_pack_195 ?_
    refine G_iload_n (pc := 196) C 1 dX12_pack_196 rfl rfl ?_
    obtain ⟨b14, hq, hw⟩ := hw
    rw [hq]
    obtain ⟨hk, hi, hw⟩ := hw
    refine G_iast (pc := 197) C hk hi dX12_pack_197 ?_
    obtain ⟨S15, hS15⟩ : ∃ y : Hp, y = sI S13 0 b14 (((122 : Int32) + v2)).toNatClampNeg v1 := ⟨_, rfl⟩
    have hw := hw S15 hS15
    rw [← hS15]
    clear hS15
    obtain ⟨e16, he16⟩ : ∃ y : Int32, y = (v2 + 1) := ⟨_, rfl⟩
    have hw := hw e16 he16
    refine G_iinc (pc := 198) C [(2, .int (e16)), (0, .ref (v0)), (1, .int (v1))] 2 (v := e16) dX12_pack_198 rfl (by rw [he16]; rfl) (by decide) rfl ?_
    clear he16
    refine G_goto (pc := 201) C 172 dX12_pack_201 (by decide) ?_
    exact G_sub [1, 2, 0] rfl (hK172 _ _ hw)
set_option maxHeartbeats 4000000 in
set_option maxRecDepth 100000 in
theorem g_X12_pack_172 (C : Cx p s m args meth c z cX12_pack 4 RX12 (some .int) "pack")  {Q : Int32 → Hp → Prop} {v0 : Nat} {v1 : Int32} {v2 : Int32} {S : Hp}   (hw : wp_X12_pack_172  Q v0 v1 v2 S) : Go p l e { frames := 4, cells := 0, slots := 0, locals := 87 } s m args below meth c z 4 (MQ below (Qx z (wI Q)) args s 0 0 (own z)) (0) (0) 172 [(0, .ref (v0)), (1, .int (v1)), (2, .int (v2))] [] (S) :=
  Lp_go (G := fun y : Int32 × Hp => Go p l e { frames := 4, cells := 0, slots := 0, locals := 87 } s m args below meth c z 4 (MQ below (Qx z (wI Q)) args s 0 0 (own z)) (0) (0) 172 [(0, .ref (v0)), (1, .int (v1)), (2, .int (y.1))] [] (y.2)) (fun K y hK hB => gb_X12_pack_172 C  (fun w0 w1 h => hK (w0, w1) h) hB) hw
set_option maxHeartbeats 4000000 in
set_option maxRecDepth 100000 in
theorem g_X12_pack_150 (C : Cx p s m args meth c z cX12_pack 4 RX12 (some .int) "pack") {K53 : Int32 → Int32 → Hp → Prop} {K61 : Int32 → Int32 → Hp → Prop} {Q : Int32 → Hp → Prop} {v0 : Nat} {v1 : Int32} {v2 : Int32} {v3 : Int32} {S : Hp}  (hK53 : ∀ (w1 : Int32) (w2 : Int32) (S2 : Hp), K53 w1 w2 S2 → Go p l e { frames := 4, cells := 0, slots := 0, locals := 87 } s m args below meth c z 4 (MQ below (Qx z (wI Q)) args s 0 0 (own z)) (0) (0) 53 [(0, .ref (v0)), (1, .int (w1)), (2, .int (w2))] [] (S2)) (hK61 : ∀ (w1 : Int32) (w3 : Int32) (S2 : Hp), K61 w1 w3 S2 → Go p l e { frames := 4, cells := 0, slots := 0, locals := 87 } s m args below meth c z 4 (MQ below (Qx z (wI Q)) args s 0 0 (own z)) (0) (0) 61 [(0, .ref (v0)), (1, .int (w1)), (2, .int (v2)), (3, .int (w3))] [] (S2)) (hw : wp_X12_pack_150 K53 K61 Q v0 v1 v2 v3 S) : Go p l e { frames := 4, cells := 0, slots := 0, locals := 87 } s m args below meth c z 4 (MQ below (Qx z (wI Q)) args s 0 0 (own z)) (0) (0) 150 [(0, .ref (v0)), (1, .int (v1)), (2, .int (v2)), (3, .int (v3))] [] (S) := by
  obtain ⟨e22, he22⟩ : ∃ y : Int32, y = (v3 + 1) := ⟨_, rfl⟩
  have hw := hw e22 he22
  refine G_iinc (pc := 150) C [(3, .int (e22)), (0, .ref (v0)), (1, .int (v1)), (2, .int (v2))] 3 (v := e22) dX12_pack_150 rfl (by rw [he22]; rfl) (by decide) rfl ?_
  clear he22
  refine G_goto (pc := 153) C 61 dX12_pack_153 (by decide) ?_
  exact G_sub [1, 2, 3, 0] rfl (hK61 _ _ _ hw)
set_option maxHeartbeats 4000000 in
set_option maxRecDepth 100000 in
theorem gb_X12_pack_61 (C : Cx p s m args meth c z cX12_pack 4 RX12 (some .int) "pack") {K53 : Int32 → Int32 → Hp → Prop} {K61 : Int32 → Int32 → Hp → Prop} {Q : Int32 → Hp → Prop} {v0 : Nat} {v1 : Int32} {v2 : Int32} {v3 : Int32} {S : Hp}  (hK53 : ∀ (w1 : Int32) (w2 : Int32) (S2 : Hp), K53 w1 w2 S2 → Go p l e { frames := 4, cells := 0, slots := 0, locals := 87 } s m args below meth c z 4 (MQ below (Qx z (wI Q)) args s 0 0 (own z)) (0) (0) 53 [(0, .ref (v0)), (1, .int (w1)), (2, .int (w2))] [] (S2)) (hK61 : ∀ (w1 : Int32) (w3 : Int32) (S2 : Hp), K61 w1 w3 S2 → Go p l e { frames := 4, cells := 0, slots := 0, locals := 87 } s m args below meth c z 4 (MQ below (Qx z (wI Q)) args s 0 0 (own z)) (0) (0) 61 [(0, .ref (v0)), (1, .int (w1)), (2, .int (v2)), (3, .int (w3))] [] (S2)) (hw : wb_X12_pack_61 K53 K61 Q v0 v1 v2 v3 S) : Go p l e { frames := 4, cells := 0, slots := 0, locals := 87 } s m args below meth c z 4 (MQ below (Qx z (wI Q)) args s 0 0 (own z)) (0) (0) 61 [(0, .ref (v0)), (1, .int (v1)), (2, .int (v2)), (3, .int (v3))] [] (S) := by
  refine G_iload_n (pc := 61) C 3 dX12_pack_61 rfl rfl ?_
  refine G_aload_n (pc := 62) C 0 dX12_pack_62 rfl rfl ?_
  obtain ⟨hk, hw⟩ := hw
  refine gf_RX12_7 (pc := 63) C dX12_pack_63 hk ?_
  refine G_iconst (pc := 66) C (v := 2) dX12_pack_66 (by decide) ?_
  obtain ⟨b17, hq, hw⟩ := hw
  rw [hq]
  obtain ⟨hk, hi, hw⟩ := hw
  refine G_iald (pc := 67) C hk hi dX12_pack_67 ?_
  refine G_icmp_ge (pc := 68) C 156 dX12_pack_68 (by decide) (fun hc => ?_) (fun hc => ?_)
  · have hw := hw.1 hc
    obtain ⟨e18, he18⟩ : ∃ y : Int32, y = (v2 + 1) := ⟨_, rfl⟩
    have hw := hw e18 he18
    refine G_iinc (pc := 156) C [(2, .int (e18)), (0, .ref (v0)), (1, .int (v1)), (3, .int (v3))] 2 (v := e18) dX12_pack_156 rfl (by rw [he18]; rfl) (by decide) rfl ?_
    clear he18
    refine G_goto (pc := 159) C 53 dX12_pack_159 (by decide) ?_
    exact G_sub [1, 2, 0] rfl (hK53 _ _ _ hw)
  · have hw := hw.2 hc
    refine G_aload_n (pc := 71) C 0 dX12_pack_71 rfl rfl ?_
    obtain ⟨hk, hw⟩ := hw
    refine gf_RX12_7 (pc := 72) C dX12_pack_72 hk ?_
    refine G_iload_n (pc := 75) C 3 dX12_pack_75 rfl rfl ?_
    obtain ⟨b21, hq, hw⟩ := hw
    rw [hq]
    refine cl_RX12_35 (pc := 76) C (c_X12_at l z (v3) S _ hw) ⟨Nat.le_of_ble_eq_true rfl, Nat.le_of_ble_eq_true rfl⟩ dX12_pack_76 (Nat.le_of_ble_eq_true rfl) (fun v S' hp => ?_)
    clear hw
    obtain ⟨hS, e19, rfl, hw⟩ := hp
    subst S'
    refine G_iconst (pc := 79) C (v := 1) dX12_pack_79 (by decide) ?_
    refine G_iadd (pc := 80) C dX12_pack_80 ?_
    obtain ⟨hk, hi, hw⟩ := hw
    refine G_iald (pc := 81) C hk hi dX12_pack_81 ?_
    refine G_iload_n (pc := 82) C 2 dX12_pack_82 rfl rfl ?_
    refine G_icmp_ne (pc := 83) C 150 dX12_pack_83 (by decide) (fun hc => ?_) (fun hc => ?_)
    · have hw := hw.1 hc
      exact G_sub [0, 1, 2, 3] rfl (g_X12_pack_150 C hK53 hK61 hw)
    · have hw := hw.2 hc
      refine G_aload_n (pc := 86) C 0 dX12_pack_86 rfl rfl ?_
      obtain ⟨hk, hw⟩ := hw
      refine gf_RX12_7 (pc := 87) C dX12_pack_87 hk ?_
      refine G_bipush (pc := 90) C (v := 96) dX12_pack_90 (by decide) ?_
      refine G_iconst (pc := 92) C (v := 3) dX12_pack_92 (by decide) ?_
      refine G_iload_n (pc := 93) C 3 dX12_pack_93 rfl rfl ?_
      refine G_imul (pc := 94) C dX12_pack_94 ?_
      refine G_iadd (pc := 95) C dX12_pack_95 ?_
      refine G_aload_n (pc := 96) C 0 dX12_pack_96 rfl rfl ?_
      obtain ⟨hk, hw⟩ := hw
      refine gf_RX12_7 (pc := 97) C dX12_pack_97 hk ?_
      refine G_iload_n (pc := 100) C 3 dX12_pack_100 rfl rfl ?_
      obtain ⟨b25, hq, hw⟩ := hw
      rw [hq]
      refine cl_RX12_35 (pc := 101) C (c_X12_at l z (v3) S _ hw) ⟨Nat.le_of_ble_eq_true rfl, Nat.le_of_ble_eq_true rfl⟩ dX12_pack_101 (Nat.le_of_ble_eq_true rfl) (fun v S' hp => ?_)
      clear hw
      obtain ⟨hS, e23, rfl, hw⟩ := hp
      subst S'
      refine G_iconst (pc := 104) C (v := 0) dX12_pack_104 (by decide) ?_
      refine G_iadd (pc := 105) C dX12_pack_105 ?_
      obtain ⟨hk, hi, hw⟩ := hw
      refine G_iald (pc := 106) C hk hi dX12_pack_106 ?_
      obtain ⟨hk, hi, hw⟩ := hw
      refine G_iast (pc := 107) C hk hi dX12_pack_107 ?_
      obtain ⟨S26, hS26⟩ : ∃ y : Hp, y = sI S 0 b25 (((96 : Int32) + ((3 : Int32) * v3))).toNatClampNeg (gI S 0 b25 ((e23 + (0 : Int32))).toNatClampNeg) := ⟨_, rfl⟩
      have hw := hw S26 hS26
      rw [← hS26]
      clear hS26
      refine G_aload_n (pc := 108) C 0 dX12_pack_108 rfl rfl ?_
      obtain ⟨hk, hw⟩ := hw
      refine gf_RX12_7 (pc := 109) C dX12_pack_109 hk ?_
      refine G_bipush (pc := 112) C (v := 96) dX12_pack_112 (by decide) ?_
      refine G_iconst (pc := 114) C (v := 3) dX12_pack_114 (by decide) ?_
      refine G_iload_n (pc := 115) C 3 dX12_pack_115 rfl rfl ?_
      refine G_imul (pc := 116) C dX12_pack_116 ?_
      refine G_iadd (pc := 117) C dX12_pack_117 ?_
      refine G_iconst (pc := 118) C (v := 1) dX12_pack_118 (by decide) ?_
      refine G_iadd (pc := 119) C dX12_pack_119 ?_
      refine G_iload_n (pc := 120) C 2 dX12_pack_120 rfl rfl ?_
      obtain ⟨b27, hq, hw⟩ := hw
      rw [hq]
      obtain ⟨hk, hi, hw⟩ := hw
      refine G_iast (pc := 121) C hk hi dX12_pack_121 ?_
      obtain ⟨S28, hS28⟩ : ∃ y : Hp, y = sI S26 0 b27 ((((96 : Int32) + ((3 : Int32) * v3)) + (1 : Int32))).toNatClampNeg v2 := ⟨_, rfl⟩
      have hw := hw S28 hS28
      rw [← hS28]
      clear hS28
      refine G_aload_n (pc := 122) C 0 dX12_pack_122 rfl rfl ?_
      obtain ⟨hk, hw⟩ := hw
      refine gf_RX12_7 (pc := 123) C dX12_pack_123 hk ?_
      refine G_bipush (pc := 126) C (v := 96) dX12_pack_126 (by decide) ?_
      refine G_iconst (pc := 128) C (v := 3) dX12_pack_128 (by decide) ?_
      refine G_iload_n (pc := 129) C 3 dX12_pack_129 rfl rfl ?_
      refine G_imul (pc := 130) C dX12_pack_130 ?_
      refine G_iadd (pc := 131) C dX12_pack_131 ?_
      refine G_iconst (pc := 132) C (v := 2) dX12_pack_132 (by decide) ?_
      refine G_iadd (pc := 133) C dX12_pack_133 ?_
      refine G_iload_n (pc := 134) C 1 dX12_pack_134 rfl rfl ?_
      obtain ⟨b29, hq, hw⟩ := hw
      rw [hq]
      obtain ⟨hk, hi, hw⟩ := hw
      refine G_iast (pc := 135) C hk hi dX12_pack_135 ?_
      obtain ⟨S30, hS30⟩ : ∃ y : Hp, y = sI S28 0 b29 ((((96 : Int32) + ((3 : Int32) * v3)) + (2 : Int32))).toNatClampNeg v1 := ⟨_, rfl⟩
      have hw := hw S30 hS30
      rw [← hS30]
      clear hS30
      refine G_aload_n (pc := 136) C 0 dX12_pack_136 rfl rfl ?_
      refine G_iload_n (pc := 137) C 3 dX12_pack_137 rfl rfl ?_
      refine G_iload_n (pc := 138) C 1 dX12_pack_138 rfl rfl ?_
      obtain ⟨hk, hw⟩ := hw
      refine cl_RX12_139 (pc := 139) C (c_X12_packs l z (v0) (v3) (v1) S30 _ hw) ⟨Nat.le_of_ble_eq_true rfl, Nat.le_of_ble_eq_true rfl⟩ hk dX12_pack_139 (Nat.le_of_ble_eq_true rfl) (fun v S' hp => ?_)
      clear hw
      obtain ⟨rfl, hw⟩ := hp
      generalize S' = S32 at hw ⊢
      refine G_iload_n (pc := 142) C 1 dX12_pack_142 rfl rfl ?_
      refine G_aload_n (pc := 143) C 0 dX12_pack_143 rfl rfl ?_
      refine G_iload_n (pc := 144) C 3 dX12_pack_144 rfl rfl ?_
      obtain ⟨hk, hw⟩ := hw
      refine cl_RX12_43 (pc := 145) C (c_X12_stripesOf l z (v0) (v3) S32 _ hw) ⟨Nat.le_of_ble_eq_true rfl, Nat.le_of_ble_eq_true rfl⟩ hk dX12_pack_145 (Nat.le_of_ble_eq_true rfl) (fun v S' hp => ?_)
      clear hw
      obtain ⟨hS, e33, rfl, hw⟩ := hp
      subst S'
      refine G_iadd (pc := 148) C dX12_pack_148 ?_
      refine G_topi (fun e35 he35 => ?_)
      have hw := hw e35 he35
      clear he35
      refine G_istore_n (pc := 149) C [(1, .int (e35)), (0, .ref (v0)), (2, .int (v2)), (3, .int (v3))] dX12_pack_149 rfl (by decide) rfl ?_
      exact G_sub [1, 0, 2, 3] rfl (g_X12_pack_150 C hK53 hK61 hw)
set_option maxHeartbeats 4000000 in
set_option maxRecDepth 100000 in
theorem g_X12_pack_61 (C : Cx p s m args meth c z cX12_pack 4 RX12 (some .int) "pack") {K53 : Int32 → Int32 → Hp → Prop} {Q : Int32 → Hp → Prop} {v0 : Nat} {v1 : Int32} {v2 : Int32} {v3 : Int32} {S : Hp}  (hK53 : ∀ (w1 : Int32) (w2 : Int32) (S2 : Hp), K53 w1 w2 S2 → Go p l e { frames := 4, cells := 0, slots := 0, locals := 87 } s m args below meth c z 4 (MQ below (Qx z (wI Q)) args s 0 0 (own z)) (0) (0) 53 [(0, .ref (v0)), (1, .int (w1)), (2, .int (w2))] [] (S2)) (hw : wp_X12_pack_61 K53 Q v0 v1 v2 v3 S) : Go p l e { frames := 4, cells := 0, slots := 0, locals := 87 } s m args below meth c z 4 (MQ below (Qx z (wI Q)) args s 0 0 (own z)) (0) (0) 61 [(0, .ref (v0)), (1, .int (v1)), (2, .int (v2)), (3, .int (v3))] [] (S) :=
  Lp_go (G := fun y : Int32 × Int32 × Hp => Go p l e { frames := 4, cells := 0, slots := 0, locals := 87 } s m args below meth c z 4 (MQ below (Qx z (wI Q)) args s 0 0 (own z)) (0) (0) 61 [(0, .ref (v0)), (1, .int (y.1)), (2, .int (v2)), (3, .int (y.2.1))] [] (y.2.2)) (fun K y hK hB => gb_X12_pack_61 C hK53 (fun w0 w1 w2 h => hK (w0, w1, w2) h) hB) hw
set_option maxHeartbeats 4000000 in
set_option maxRecDepth 100000 in
theorem gb_X12_pack_53 (C : Cx p s m args meth c z cX12_pack 4 RX12 (some .int) "pack") {K53 : Int32 → Int32 → Hp → Prop} {Q : Int32 → Hp → Prop} {v0 : Nat} {v1 : Int32} {v2 : Int32} {S : Hp}  (hK53 : ∀ (w1 : Int32) (w2 : Int32) (S2 : Hp), K53 w1 w2 S2 → Go p l e { frames := 4, cells := 0, slots := 0, locals := 87 } s m args below meth c z 4 (MQ below (Qx z (wI Q)) args s 0 0 (own z)) (0) (0) 53 [(0, .ref (v0)), (1, .int (w1)), (2, .int (w2))] [] (S2)) (hw : wb_X12_pack_53  K53 Q v0 v1 v2 S) : Go p l e { frames := 4, cells := 0, slots := 0, locals := 87 } s m args below meth c z 4 (MQ below (Qx z (wI Q)) args s 0 0 (own z)) (0) (0) 53 [(0, .ref (v0)), (1, .int (v1)), (2, .int (v2))] [] (S) := by
  refine G_iload_n (pc := 53) C 2 dX12_pack_53 rfl rfl ?_
  refine G_bipush (pc := 54) C (v := 9) dX12_pack_54 (by decide) ?_
  refine G_icmp_ge (pc := 56) C 162 dX12_pack_56 (by decide) (fun hc => ?_) (fun hc => ?_)
  · have hw := hw.1 hc
    refine G_aload_n (pc := 162) C 0 dX12_pack_162 rfl rfl ?_
    obtain ⟨hk, hw⟩ := hw
    refine gf_RX12_7 (pc := 163) C dX12_pack_163 hk ?_
    refine G_bipush (pc := 166) C (v := 95) dX12_pack_166 (by decide) ?_
    refine G_iload_n (pc := 168) C 1 dX12_pack_168 rfl rfl ?_
    obtain ⟨b10, hq, hw⟩ := hw
    rw [hq]
    obtain ⟨hk, hi, hw⟩ := hw
    refine G_iast (pc := 169) C hk hi dX12_pack_169 ?_
    obtain ⟨S11, hS11⟩ : ∃ y : Hp, y = sI S 0 b10 ((95 : Int32)).toNatClampNeg v1 := ⟨_, rfl⟩
    have hw := hw S11 hS11
    rw [← hS11]
    clear hS11
    refine G_iconst (pc := 170) C (v := 0) dX12_pack_170 (by decide) ?_
    refine G_istore_n (pc := 171) C [(2, .int ((0 : Int32))), (0, .ref (v0)), (1, .int (v1))] dX12_pack_171 rfl (by decide) rfl ?_
    exact G_sub [1, 2, 0] rfl (g_X12_pack_172 C  hw)
  · have hw := hw.2 hc
    refine G_iconst (pc := 59) C (v := 0) dX12_pack_59 (by decide) ?_
    refine G_istore_n (pc := 60) C [(3, .int ((0 : Int32))), (0, .ref (v0)), (1, .int (v1)), (2, .int (v2))] dX12_pack_60 rfl (by decide) rfl ?_
    exact G_sub [1, 2, 3, 0] rfl (g_X12_pack_61 C hK53 hw)
set_option maxHeartbeats 4000000 in
set_option maxRecDepth 100000 in
theorem g_X12_pack_53 (C : Cx p s m args meth c z cX12_pack 4 RX12 (some .int) "pack")  {Q : Int32 → Hp → Prop} {v0 : Nat} {v1 : Int32} {v2 : Int32} {S : Hp}   (hw : wp_X12_pack_53  Q v0 v1 v2 S) : Go p l e { frames := 4, cells := 0, slots := 0, locals := 87 } s m args below meth c z 4 (MQ below (Qx z (wI Q)) args s 0 0 (own z)) (0) (0) 53 [(0, .ref (v0)), (1, .int (v1)), (2, .int (v2))] [] (S) :=
  Lp_go (G := fun y : Int32 × Int32 × Hp => Go p l e { frames := 4, cells := 0, slots := 0, locals := 87 } s m args below meth c z 4 (MQ below (Qx z (wI Q)) args s 0 0 (own z)) (0) (0) 53 [(0, .ref (v0)), (1, .int (y.1)), (2, .int (y.2.1))] [] (y.2.2)) (fun K y hK hB => gb_X12_pack_53 C  (fun w0 w1 w2 h => hK (w0, w1, w2) h) hB) hw
set_option maxHeartbeats 4000000 in
set_option maxRecDepth 100000 in
theorem c_X12_pack (l : Launch) (z : Zt) (a0 : Nat) (S : Hp) (Q : Int32 → Hp → Prop) (hw : wp_X12_pack a0 S Q) : Ct l z yX12_pack cX12_pack 4 (some .int) 4 87 0 0 [.ref (a0)] S (wI Q) := by
  refine Ct_of (by decide) (Nat.le_of_ble_eq_true rfl) ?_
  intro p e s m args below meth c C
  have C : Cx p s m args meth c z cX12_pack 4 RX12 (some .int) "pack" := C
  refine G_sub (lv' := [(0, .ref (a0))]) [0] rfl ?_
  refine G_aload_n (pc := 0) C 0 dX12_pack_0 rfl rfl ?_
  obtain ⟨hk, hw⟩ := hw
  refine gf_RX12_7 (pc := 1) C dX12_pack_1 hk ?_
  refine G_iconst (pc := 4) C (v := 2) dX12_pack_4 (by decide) ?_
  obtain ⟨b1, hq, hw⟩ := hw
  rw [hq]
  obtain ⟨hk, hi, hw⟩ := hw
  refine G_iald (pc := 5) C hk hi dX12_pack_5 ?_
  refine G_if_eq (pc := 6) C 16 dX12_pack_6 (by decide) (fun hc => ?_) (fun hc => ?_)
  · have hw := hw.1 hc
    exact G_sub [] rfl (g_X12_pack_16 C  hw)
  · have hw := hw.2 hc
    refine G_aload_n (pc := 9) C 0 dX12_pack_9 rfl rfl ?_
    obtain ⟨hk, hw⟩ := hw
    refine cl_RX12_136 (pc := 10) C (c_X12_isFit l z (a0) S _ hw) ⟨Nat.le_of_ble_eq_true rfl, Nat.le_of_ble_eq_true rfl⟩ hk dX12_pack_10 (Nat.le_of_ble_eq_true rfl) (fun v S' hp => ?_)
    clear hw
    obtain ⟨hS, e2, rfl, hw⟩ := hp
    subst S'
    refine G_if_ne (pc := 13) C 19 dX12_pack_13 (by decide) (fun hc => ?_) (fun hc => ?_)
    · have hw := hw.1 hc
      refine G_aload_n (pc := 19) C 0 dX12_pack_19 rfl rfl ?_
      obtain ⟨hk, hw⟩ := hw
      refine cl_RX12_120 (pc := 20) C (c_X12_notes l z (a0) S _ hw) ⟨Nat.le_of_ble_eq_true rfl, Nat.le_of_ble_eq_true rfl⟩ hk dX12_pack_20 (Nat.le_of_ble_eq_true rfl) (fun v S' hp => ?_)
      clear hw
      obtain ⟨rfl, hw⟩ := hp
      generalize S' = S5 at hw ⊢
      refine G_aload_n (pc := 23) C 0 dX12_pack_23 rfl rfl ?_
      obtain ⟨hk, hw⟩ := hw
      refine gf_RX12_7 (pc := 24) C dX12_pack_24 hk ?_
      refine G_bipush (pc := 27) C (v := 93) dX12_pack_27 (by decide) ?_
      refine G_aload_n (pc := 29) C 0 dX12_pack_29 rfl rfl ?_
      obtain ⟨hk, hw⟩ := hw
      refine gf_RX12_7 (pc := 30) C dX12_pack_30 hk ?_
      refine G_iconst (pc := 33) C (v := 2) dX12_pack_33 (by decide) ?_
      obtain ⟨b6, hq, hw⟩ := hw
      rw [hq]
      obtain ⟨hk, hi, hw⟩ := hw
      refine G_iald (pc := 34) C hk hi dX12_pack_34 ?_
      obtain ⟨hk, hi, hw⟩ := hw
      refine G_iast (pc := 35) C hk hi dX12_pack_35 ?_
      obtain ⟨S7, hS7⟩ : ∃ y : Hp, y = sI S5 0 b6 ((93 : Int32)).toNatClampNeg (gI S5 0 b6 ((2 : Int32)).toNatClampNeg) := ⟨_, rfl⟩
      have hw := hw S7 hS7
      rw [← hS7]
      clear hS7
      refine G_aload_n (pc := 36) C 0 dX12_pack_36 rfl rfl ?_
      obtain ⟨hk, hw⟩ := hw
      refine gf_RX12_7 (pc := 37) C dX12_pack_37 hk ?_
      refine G_bipush (pc := 40) C (v := 94) dX12_pack_40 (by decide) ?_
      refine G_aload_n (pc := 42) C 0 dX12_pack_42 rfl rfl ?_
      obtain ⟨hk, hw⟩ := hw
      refine gf_RX12_7 (pc := 43) C dX12_pack_43 hk ?_
      refine G_iconst (pc := 46) C (v := 0) dX12_pack_46 (by decide) ?_
      obtain ⟨b8, hq, hw⟩ := hw
      rw [hq]
      obtain ⟨hk, hi, hw⟩ := hw
      refine G_iald (pc := 47) C hk hi dX12_pack_47 ?_
      obtain ⟨hk, hi, hw⟩ := hw
      refine G_iast (pc := 48) C hk hi dX12_pack_48 ?_
      obtain ⟨S9, hS9⟩ : ∃ y : Hp, y = sI S7 0 b8 ((94 : Int32)).toNatClampNeg (gI S7 0 b8 ((0 : Int32)).toNatClampNeg) := ⟨_, rfl⟩
      have hw := hw S9 hS9
      rw [← hS9]
      clear hS9
      refine G_iconst (pc := 49) C (v := 0) dX12_pack_49 (by decide) ?_
      refine G_istore_n (pc := 50) C [(1, .int ((0 : Int32))), (0, .ref (a0))] dX12_pack_50 rfl (by decide) rfl ?_
      refine G_iconst (pc := 51) C (v := 1) dX12_pack_51 (by decide) ?_
      refine G_istore_n (pc := 52) C [(2, .int ((1 : Int32))), (1, .int ((0 : Int32))), (0, .ref (a0))] dX12_pack_52 rfl (by decide) rfl ?_
      exact G_sub [2, 1, 0] rfl (g_X12_pack_53 C  hw)
    · have hw := hw.2 hc
      exact G_sub [] rfl (g_X12_pack_16 C  hw)
/-! FirstPartsModel.isPacket(I)Z -/
abbrev wp_X12_isPacket (a0 : Nat) (x1 : Int32) (S : Hp) (Q : Int32 → Prop) : Prop :=
  kd S a0 = 13 ∧ ∃ b1, (gR S 193 a0 0) = some b1 ∧ kd S b1 = 20 ∧ vp_in (94 : Int32) (ln S b1) ∧ wp_X12_in ((x1).toInt64) ((0 : Int64)) ((((gI S 0 b1 ((94 : Int32)).toNatClampNeg) - (1 : Int32))).toInt64) S (fun e2 => (e2 = 0 ∨ e2 = 1) ∧ Q e2)
set_option maxHeartbeats 4000000 in
set_option maxRecDepth 100000 in
theorem c_X12_isPacket (l : Launch) (z : Zt) (a0 : Nat) (x1 : Int32) (S : Hp) (Q : Int32 → Prop) (hw : wp_X12_isPacket a0 x1 S Q) : Ct l z yX12_isPacket cX12_isPacket 2 (some .boolean) 1 25 0 0 [.ref (a0), .int (x1)] S (pI S Q) := by
  refine Ct_of (by decide) (Nat.le_of_ble_eq_true rfl) ?_
  intro p e s m args below meth c C
  have C : Cx p s m args meth c z cX12_isPacket 2 RX12 (some .boolean) "isPacket" := C
  refine G_sub (lv' := [(0, .ref (a0)), (1, .int (x1))]) [0, 1] rfl ?_
  refine G_iload_n (pc := 0) C 1 dX12_isPacket_0 rfl rfl ?_
  refine G_i2l (pc := 1) C dX12_isPacket_1 ?_
  refine G_lconst (pc := 2) C (v := 0) dX12_isPacket_2 (by decide) ?_
  refine G_aload_n (pc := 3) C 0 dX12_isPacket_3 rfl rfl ?_
  obtain ⟨hk, hw⟩ := hw
  refine gf_RX12_7 (pc := 4) C dX12_isPacket_4 hk ?_
  refine G_bipush (pc := 7) C (v := 94) dX12_isPacket_7 (by decide) ?_
  obtain ⟨b1, hq, hw⟩ := hw
  rw [hq]
  obtain ⟨hk, hi, hw⟩ := hw
  refine G_iald (pc := 9) C hk hi dX12_isPacket_9 ?_
  refine G_iconst (pc := 10) C (v := 1) dX12_isPacket_10 (by decide) ?_
  refine G_isub (pc := 11) C dX12_isPacket_11 ?_
  refine G_i2l (pc := 12) C dX12_isPacket_12 ?_
  refine cl_RX12_31 (pc := 13) C (c_X12_in l z ((x1).toInt64) ((0 : Int64)) ((((gI S 0 b1 ((94 : Int32)).toNatClampNeg) - (1 : Int32))).toInt64) S _ hw) ⟨Nat.le_of_ble_eq_true rfl, Nat.le_of_ble_eq_true rfl⟩ dX12_isPacket_13 (Nat.le_of_ble_eq_true rfl) (fun v S' hp => ?_)
  clear hw
  obtain ⟨hS, e2, rfl, hw⟩ := hp
  subst S'
  obtain ⟨hb, hw⟩ := hw
  exact G_zret (pc := 16) C rfl hb dX12_isPacket_16 ⟨rfl, _, rfl, hw⟩
/-! FirstPartsModel.lose(I)I -/
abbrev wp_X12_lose (a0 : Nat) (x1 : Int32) (S : Hp) (Q : Int32 → Hp → Prop) : Prop :=
  kd S a0 = 13 ∧ wp_X12_isPacket (a0) (x1) S (fun e1 => ((e1 ≠ 0 → kd S a0 = 13 ∧ ∃ b3, (gR S 193 a0 0) = some b3 ∧ kd S b3 = 20 ∧ vp_in ((114 : Int32) + x1) (ln S b3) ∧ (((gI S 0 b3 (((114 : Int32) + x1)).toNatClampNeg) ≠ (1 : Int32) → kd S a0 = 13 ∧ wp_X12_changes (a0) (((114 : Int32) + x1)) ((1 : Int32)) S (fun e4 S5 => kd S5 a0 = 13 ∧ ∃ b6, (gR S5 193 a0 0) = some b6 ∧ kd S5 b6 = 20 ∧ vp_in ((122 : Int32) + x1) (ln S5 b6) ∧ Q (gI S5 0 b6 (((122 : Int32) + x1)).toNatClampNeg) S5)) ∧ ((gI S 0 b3 (((114 : Int32) + x1)).toNatClampNeg) = (1 : Int32) → Q (-4 : Int32) S))) ∧ (e1 = 0 → Q (-2 : Int32) S)))
set_option maxHeartbeats 4000000 in
set_option maxRecDepth 100000 in
theorem c_X12_lose (l : Launch) (z : Zt) (a0 : Nat) (x1 : Int32) (S : Hp) (Q : Int32 → Hp → Prop) (hw : wp_X12_lose a0 x1 S Q) : Ct l z yX12_lose cX12_lose 2 (some .int) 3 67 0 0 [.ref (a0), .int (x1)] S (wI Q) := by
  refine Ct_of (by decide) (Nat.le_of_ble_eq_true rfl) ?_
  intro p e s m args below meth c C
  have C : Cx p s m args meth c z cX12_lose 2 RX12 (some .int) "lose" := C
  refine G_sub (lv' := [(0, .ref (a0)), (1, .int (x1))]) [0, 1] rfl ?_
  refine G_aload_n (pc := 0) C 0 dX12_lose_0 rfl rfl ?_
  refine G_iload_n (pc := 1) C 1 dX12_lose_1 rfl rfl ?_
  obtain ⟨hk, hw⟩ := hw
  refine cl_RX12_142 (pc := 2) C (c_X12_isPacket l z (a0) (x1) S _ hw) ⟨Nat.le_of_ble_eq_true rfl, Nat.le_of_ble_eq_true rfl⟩ hk dX12_lose_2 (Nat.le_of_ble_eq_true rfl) (fun v S' hp => ?_)
  clear hw
  obtain ⟨hS, e1, rfl, hw⟩ := hp
  subst S'
  refine G_if_ne (pc := 5) C 11 dX12_lose_5 (by decide) (fun hc => ?_) (fun hc => ?_)
  · have hw := hw.1 hc
    refine G_aload_n (pc := 11) C 0 dX12_lose_11 rfl rfl ?_
    obtain ⟨hk, hw⟩ := hw
    refine gf_RX12_7 (pc := 12) C dX12_lose_12 hk ?_
    refine G_bipush (pc := 15) C (v := 114) dX12_lose_15 (by decide) ?_
    refine G_iload_n (pc := 17) C 1 dX12_lose_17 rfl rfl ?_
    refine G_iadd (pc := 18) C dX12_lose_18 ?_
    obtain ⟨b3, hq, hw⟩ := hw
    rw [hq]
    obtain ⟨hk, hi, hw⟩ := hw
    refine G_iald (pc := 19) C hk hi dX12_lose_19 ?_
    refine G_iconst (pc := 20) C (v := 1) dX12_lose_20 (by decide) ?_
    refine G_icmp_ne (pc := 21) C 27 dX12_lose_21 (by decide) (fun hc => ?_) (fun hc => ?_)
    · have hw := hw.1 hc
      refine G_aload_n (pc := 27) C 0 dX12_lose_27 rfl rfl ?_
      refine G_bipush (pc := 28) C (v := 114) dX12_lose_28 (by decide) ?_
      refine G_iload_n (pc := 30) C 1 dX12_lose_30 rfl rfl ?_
      refine G_iadd (pc := 31) C dX12_lose_31 ?_
      refine G_iconst (pc := 32) C (v := 1) dX12_lose_32 (by decide) ?_
      obtain ⟨hk, hw⟩ := hw
      refine cl_RX12_125 (pc := 33) C (c_X12_changes l z (a0) (((114 : Int32) + x1)) ((1 : Int32)) S _ hw) ⟨Nat.le_of_ble_eq_true rfl, Nat.le_of_ble_eq_true rfl⟩ hk dX12_lose_33 (Nat.le_of_ble_eq_true rfl) (fun v S' hp => ?_)
      clear hw
      obtain ⟨e4, rfl, hw⟩ := hp
      generalize S' = S5 at hw ⊢
      refine G_pop (pc := 36) C dX12_lose_36 rfl ?_
      refine G_aload_n (pc := 37) C 0 dX12_lose_37 rfl rfl ?_
      obtain ⟨hk, hw⟩ := hw
      refine gf_RX12_7 (pc := 38) C dX12_lose_38 hk ?_
      refine G_bipush (pc := 41) C (v := 122) dX12_lose_41 (by decide) ?_
      refine G_iload_n (pc := 43) C 1 dX12_lose_43 rfl rfl ?_
      refine G_iadd (pc := 44) C dX12_lose_44 ?_
      obtain ⟨b6, hq, hw⟩ := hw
      rw [hq]
      obtain ⟨hk, hi, hw⟩ := hw
      refine G_iald (pc := 45) C hk hi dX12_lose_45 ?_
      exact G_iret (pc := 46) C rfl dX12_lose_46 ⟨_, rfl, hw⟩
    · have hw := hw.2 hc
      refine G_bipush (pc := 24) C (v := -4) dX12_lose_24 (by decide) ?_
      exact G_iret (pc := 26) C rfl dX12_lose_26 ⟨_, rfl, hw⟩
  · have hw := hw.2 hc
    refine G_bipush (pc := 8) C (v := -2) dX12_lose_8 (by decide) ?_
    exact G_iret (pc := 10) C rfl dX12_lose_10 ⟨_, rfl, hw⟩
/-! FirstPartsModel.cut(II)I -/
abbrev wp_X12_cut (a0 : Nat) (x1 : Int32) (x2 : Int32) (S : Hp) (Q : Int32 → Hp → Prop) : Prop :=
  kd S a0 = 13 ∧ wp_X12_isPacket (a0) (x1) S (fun e1 => ((e1 ≠ 0 → kd S a0 = 13 ∧ ∃ b3, (gR S 193 a0 0) = some b3 ∧ kd S b3 = 20 ∧ vp_in ((122 : Int32) + x1) (ln S b3) ∧ wp_X12_in ((x2).toInt64) ((0 : Int64)) (((gI S 0 b3 (((122 : Int32) + x1)).toNatClampNeg)).toInt64) S (fun e4 => ((e4 ≠ 0 → kd S a0 = 13 ∧ ∃ b6, (gR S 193 a0 0) = some b6 ∧ kd S b6 = 20 ∧ vp_in ((114 : Int32) + x1) (ln S b6) ∧ (((gI S 0 b6 (((114 : Int32) + x1)).toNatClampNeg) ≠ (1 : Int32) → kd S a0 = 13 ∧ wp_X12_changes (a0) (((122 : Int32) + x1)) (x2) S (fun e7 S8 => Q (e7 - x2) S8)) ∧ ((gI S 0 b6 (((114 : Int32) + x1)).toNatClampNeg) = (1 : Int32) → Q (-4 : Int32) S))) ∧ (e4 = 0 → Q (-3 : Int32) S)))) ∧ (e1 = 0 → Q (-2 : Int32) S)))
set_option maxHeartbeats 4000000 in
set_option maxRecDepth 100000 in
theorem c_X12_cut (l : Launch) (z : Zt) (a0 : Nat) (x1 : Int32) (x2 : Int32) (S : Hp) (Q : Int32 → Hp → Prop) (hw : wp_X12_cut a0 x1 x2 S Q) : Ct l z yX12_cut cX12_cut 3 (some .int) 3 67 0 0 [.ref (a0), .int (x1), .int (x2)] S (wI Q) := by
  refine Ct_of (by decide) (Nat.le_of_ble_eq_true rfl) ?_
  intro p e s m args below meth c C
  have C : Cx p s m args meth c z cX12_cut 3 RX12 (some .int) "cut" := C
  refine G_sub (lv' := [(0, .ref (a0)), (1, .int (x1)), (2, .int (x2))]) [0, 1, 2] rfl ?_
  refine G_aload_n (pc := 0) C 0 dX12_cut_0 rfl rfl ?_
  refine G_iload_n (pc := 1) C 1 dX12_cut_1 rfl rfl ?_
  obtain ⟨hk, hw⟩ := hw
  refine cl_RX12_142 (pc := 2) C (c_X12_isPacket l z (a0) (x1) S _ hw) ⟨Nat.le_of_ble_eq_true rfl, Nat.le_of_ble_eq_true rfl⟩ hk dX12_cut_2 (Nat.le_of_ble_eq_true rfl) (fun v S' hp => ?_)
  clear hw
  obtain ⟨hS, e1, rfl, hw⟩ := hp
  subst S'
  refine G_if_ne (pc := 5) C 11 dX12_cut_5 (by decide) (fun hc => ?_) (fun hc => ?_)
  · have hw := hw.1 hc
    refine G_iload_n (pc := 11) C 2 dX12_cut_11 rfl rfl ?_
    refine G_i2l (pc := 12) C dX12_cut_12 ?_
    refine G_lconst (pc := 13) C (v := 0) dX12_cut_13 (by decide) ?_
    refine G_aload_n (pc := 14) C 0 dX12_cut_14 rfl rfl ?_
    obtain ⟨hk, hw⟩ := hw
    refine gf_RX12_7 (pc := 15) C dX12_cut_15 hk ?_
    refine G_bipush (pc := 18) C (v := 122) dX12_cut_18 (by decide) ?_
    refine G_iload_n (pc := 20) C 1 dX12_cut_20 rfl rfl ?_
    refine G_iadd (pc := 21) C dX12_cut_21 ?_
    obtain ⟨b3, hq, hw⟩ := hw
    rw [hq]
    obtain ⟨hk, hi, hw⟩ := hw
    refine G_iald (pc := 22) C hk hi dX12_cut_22 ?_
    refine G_i2l (pc := 23) C dX12_cut_23 ?_
    refine cl_RX12_31 (pc := 24) C (c_X12_in l z ((x2).toInt64) ((0 : Int64)) (((gI S 0 b3 (((122 : Int32) + x1)).toNatClampNeg)).toInt64) S _ hw) ⟨Nat.le_of_ble_eq_true rfl, Nat.le_of_ble_eq_true rfl⟩ dX12_cut_24 (Nat.le_of_ble_eq_true rfl) (fun v S' hp => ?_)
    clear hw
    obtain ⟨hS, e4, rfl, hw⟩ := hp
    subst S'
    refine G_if_ne (pc := 27) C 33 dX12_cut_27 (by decide) (fun hc => ?_) (fun hc => ?_)
    · have hw := hw.1 hc
      refine G_aload_n (pc := 33) C 0 dX12_cut_33 rfl rfl ?_
      obtain ⟨hk, hw⟩ := hw
      refine gf_RX12_7 (pc := 34) C dX12_cut_34 hk ?_
      refine G_bipush (pc := 37) C (v := 114) dX12_cut_37 (by decide) ?_
      refine G_iload_n (pc := 39) C 1 dX12_cut_39 rfl rfl ?_
      refine G_iadd (pc := 40) C dX12_cut_40 ?_
      obtain ⟨b6, hq, hw⟩ := hw
      rw [hq]
      obtain ⟨hk, hi, hw⟩ := hw
      refine G_iald (pc := 41) C hk hi dX12_cut_41 ?_
      refine G_iconst (pc := 42) C (v := 1) dX12_cut_42 (by decide) ?_
      refine G_icmp_ne (pc := 43) C 49 dX12_cut_43 (by decide) (fun hc => ?_) (fun hc => ?_)
      · have hw := hw.1 hc
        refine G_aload_n (pc := 49) C 0 dX12_cut_49 rfl rfl ?_
        refine G_bipush (pc := 50) C (v := 122) dX12_cut_50 (by decide) ?_
        refine G_iload_n (pc := 52) C 1 dX12_cut_52 rfl rfl ?_
        refine G_iadd (pc := 53) C dX12_cut_53 ?_
        refine G_iload_n (pc := 54) C 2 dX12_cut_54 rfl rfl ?_
        obtain ⟨hk, hw⟩ := hw
        refine cl_RX12_125 (pc := 55) C (c_X12_changes l z (a0) (((122 : Int32) + x1)) (x2) S _ hw) ⟨Nat.le_of_ble_eq_true rfl, Nat.le_of_ble_eq_true rfl⟩ hk dX12_cut_55 (Nat.le_of_ble_eq_true rfl) (fun v S' hp => ?_)
        clear hw
        obtain ⟨e7, rfl, hw⟩ := hp
        generalize S' = S8 at hw ⊢
        refine G_iload_n (pc := 58) C 2 dX12_cut_58 rfl rfl ?_
        refine G_isub (pc := 59) C dX12_cut_59 ?_
        exact G_iret (pc := 60) C rfl dX12_cut_60 ⟨_, rfl, hw⟩
      · have hw := hw.2 hc
        refine G_bipush (pc := 46) C (v := -4) dX12_cut_46 (by decide) ?_
        exact G_iret (pc := 48) C rfl dX12_cut_48 ⟨_, rfl, hw⟩
    · have hw := hw.2 hc
      refine G_bipush (pc := 30) C (v := -3) dX12_cut_30 (by decide) ?_
      exact G_iret (pc := 32) C rfl dX12_cut_32 ⟨_, rfl, hw⟩
  · have hw := hw.2 hc
    refine G_bipush (pc := 8) C (v := -2) dX12_cut_8 (by decide) ?_
    exact G_iret (pc := 10) C rfl dX12_cut_10 ⟨_, rfl, hw⟩
/-! FirstPartsModel.hasNumber(II)Z -/
abbrev wp_X12_hasNumber_38  (Q : Int32 → Prop) (s0 : Int32) (S : Hp) : Prop :=
  (s0 = 0 ∨ s0 = 1) ∧ Q s0
abbrev wp_X12_hasNumber_37  (Q : Int32 → Prop)  (S : Hp) : Prop :=
  wp_X12_hasNumber_38 Q ((0 : Int32)) (S)
abbrev wp_X12_hasNumber (a0 : Nat) (x1 : Int32) (x2 : Int32) (S : Hp) (Q : Int32 → Prop) : Prop :=
  kd S a0 = 13 ∧ ∃ b1, (gR S 193 a0 0) = some b1 ∧ kd S b1 = 20 ∧ vp_in ((114 : Int32) + x1) (ln S b1) ∧ (((gI S 0 b1 (((114 : Int32) + x1)).toNatClampNeg) ≠ 0 → wp_X12_hasNumber_37 Q (S)) ∧ ((gI S 0 b1 (((114 : Int32) + x1)).toNatClampNeg) = 0 → kd S a0 = 13 ∧ ∃ b2, (gR S 193 a0 0) = some b2 ∧ kd S b2 = 20 ∧ vp_in ((122 : Int32) + x1) (ln S b2) ∧ wp_X12_in ((x2).toInt64) ((0 : Int64)) ((((gI S 0 b2 (((122 : Int32) + x1)).toNatClampNeg) - (1 : Int32))).toInt64) S (fun e3 => ((e3 = 0 → wp_X12_hasNumber_37 Q (S)) ∧ (¬ e3 = 0 → wp_X12_hasNumber_38 Q ((1 : Int32)) (S))))))
set_option maxHeartbeats 4000000 in
set_option maxRecDepth 100000 in
theorem g_X12_hasNumber_38 (C : Cx p s m args meth c z cX12_hasNumber 3 RX12 (some .boolean) "hasNumber")  {Q : Int32 → Prop} {s0 : Int32} {S : Hp}   (hw : wp_X12_hasNumber_38  Q s0 S) : Go p l e { frames := 1, cells := 0, slots := 0, locals := 25 } s m args below meth c z 3 (MQ below (Qx z (pI S Q)) args s 0 0 (own z)) (0) (0) 38 [] [.int (s0)] (S) := by
  obtain ⟨hb, hw⟩ := hw
  exact G_zret (pc := 38) C rfl hb dX12_hasNumber_38 ⟨rfl, _, rfl, hw⟩
set_option maxHeartbeats 4000000 in
set_option maxRecDepth 100000 in
theorem g_X12_hasNumber_37 (C : Cx p s m args meth c z cX12_hasNumber 3 RX12 (some .boolean) "hasNumber")  {Q : Int32 → Prop}  {S : Hp}   (hw : wp_X12_hasNumber_37  Q  S) : Go p l e { frames := 1, cells := 0, slots := 0, locals := 25 } s m args below meth c z 3 (MQ below (Qx z (pI S Q)) args s 0 0 (own z)) (0) (0) 37 [] [] (S) := by
  refine G_iconst (pc := 37) C (v := 0) dX12_hasNumber_37 (by decide) ?_
  exact G_sub [] rfl (g_X12_hasNumber_38 C  hw)
set_option maxHeartbeats 4000000 in
set_option maxRecDepth 100000 in
theorem c_X12_hasNumber (l : Launch) (z : Zt) (a0 : Nat) (x1 : Int32) (x2 : Int32) (S : Hp) (Q : Int32 → Prop) (hw : wp_X12_hasNumber a0 x1 x2 S Q) : Ct l z yX12_hasNumber cX12_hasNumber 3 (some .boolean) 1 25 0 0 [.ref (a0), .int (x1), .int (x2)] S (pI S Q) := by
  refine Ct_of (by decide) (Nat.le_of_ble_eq_true rfl) ?_
  intro p e s m args below meth c C
  have C : Cx p s m args meth c z cX12_hasNumber 3 RX12 (some .boolean) "hasNumber" := C
  refine G_sub (lv' := [(0, .ref (a0)), (1, .int (x1)), (2, .int (x2))]) [0, 1, 2] rfl ?_
  refine G_aload_n (pc := 0) C 0 dX12_hasNumber_0 rfl rfl ?_
  obtain ⟨hk, hw⟩ := hw
  refine gf_RX12_7 (pc := 1) C dX12_hasNumber_1 hk ?_
  refine G_bipush (pc := 4) C (v := 114) dX12_hasNumber_4 (by decide) ?_
  refine G_iload_n (pc := 6) C 1 dX12_hasNumber_6 rfl rfl ?_
  refine G_iadd (pc := 7) C dX12_hasNumber_7 ?_
  obtain ⟨b1, hq, hw⟩ := hw
  rw [hq]
  obtain ⟨hk, hi, hw⟩ := hw
  refine G_iald (pc := 8) C hk hi dX12_hasNumber_8 ?_
  refine G_if_ne (pc := 9) C 37 dX12_hasNumber_9 (by decide) (fun hc => ?_) (fun hc => ?_)
  · have hw := hw.1 hc
    exact G_sub [] rfl (g_X12_hasNumber_37 C  hw)
  · have hw := hw.2 hc
    refine G_iload_n (pc := 12) C 2 dX12_hasNumber_12 rfl rfl ?_
    refine G_i2l (pc := 13) C dX12_hasNumber_13 ?_
    refine G_lconst (pc := 14) C (v := 0) dX12_hasNumber_14 (by decide) ?_
    refine G_aload_n (pc := 15) C 0 dX12_hasNumber_15 rfl rfl ?_
    obtain ⟨hk, hw⟩ := hw
    refine gf_RX12_7 (pc := 16) C dX12_hasNumber_16 hk ?_
    refine G_bipush (pc := 19) C (v := 122) dX12_hasNumber_19 (by decide) ?_
    refine G_iload_n (pc := 21) C 1 dX12_hasNumber_21 rfl rfl ?_
    refine G_iadd (pc := 22) C dX12_hasNumber_22 ?_
    obtain ⟨b2, hq, hw⟩ := hw
    rw [hq]
    obtain ⟨hk, hi, hw⟩ := hw
    refine G_iald (pc := 23) C hk hi dX12_hasNumber_23 ?_
    refine G_iconst (pc := 24) C (v := 1) dX12_hasNumber_24 (by decide) ?_
    refine G_isub (pc := 25) C dX12_hasNumber_25 ?_
    refine G_i2l (pc := 26) C dX12_hasNumber_26 ?_
    refine cl_RX12_31 (pc := 27) C (c_X12_in l z ((x2).toInt64) ((0 : Int64)) ((((gI S 0 b2 (((122 : Int32) + x1)).toNatClampNeg) - (1 : Int32))).toInt64) S _ hw) ⟨Nat.le_of_ble_eq_true rfl, Nat.le_of_ble_eq_true rfl⟩ dX12_hasNumber_27 (Nat.le_of_ble_eq_true rfl) (fun v S' hp => ?_)
    clear hw
    obtain ⟨hS, e3, rfl, hw⟩ := hp
    subst S'
    refine G_if_eq (pc := 30) C 37 dX12_hasNumber_30 (by decide) (fun hc => ?_) (fun hc => ?_)
    · have hw := hw.1 hc
      exact G_sub [] rfl (g_X12_hasNumber_37 C  hw)
    · have hw := hw.2 hc
      refine G_iconst (pc := 33) C (v := 1) dX12_hasNumber_33 (by decide) ?_
      refine G_goto (pc := 34) C 38 dX12_hasNumber_34 (by decide) ?_
      exact G_sub [] rfl (g_X12_hasNumber_38 C  hw)
/-! FirstPartsModel.spoil(III)I -/
abbrev wp_X12_spoil_17  (Q : Int32 → Hp → Prop)  (S : Hp) : Prop :=
  Q (-2 : Int32) S
abbrev wp_X12_spoil_52  (Q : Int32 → Hp → Prop) (s0 : Int32) (S : Hp) : Prop :=
  Q s0 S
abbrev wp_X12_spoil (a0 : Nat) (x1 : Int32) (x2 : Int32) (x3 : Int32) (S : Hp) (Q : Int32 → Hp → Prop) : Prop :=
  kd S a0 = 13 ∧ wp_X12_isPacket (a0) (x1) S (fun e1 => ((e1 = 0 → wp_X12_spoil_17 Q (S)) ∧ (¬ e1 = 0 → kd S a0 = 13 ∧ wp_X12_hasNumber (a0) (x1) (x2) S (fun e3 => ((e3 ≠ 0 → wp_X12_in ((x3).toInt64) ((0 : Int64)) ((28 : Int64)) S (fun e5 => ((e5 = 0 → wp_X12_spoil_52 Q ((-3 : Int32)) (S)) ∧ (¬ e5 = 0 → kd S a0 = 13 ∧ wp_X12_changes (a0) ((((450 : Int32) + ((40 : Int32) * x1)) + x2)) (x3) S (fun e7 S8 => wp_X12_spoil_52 Q (e7) (S8)))))) ∧ (e3 = 0 → wp_X12_spoil_17 Q (S)))))))
set_option maxHeartbeats 4000000 in
set_option maxRecDepth 100000 in
theorem g_X12_spoil_17 (C : Cx p s m args meth c z cX12_spoil 4 RX12 (some .int) "spoil")  {Q : Int32 → Hp → Prop}  {S : Hp}   (hw : wp_X12_spoil_17  Q  S) : Go p l e { frames := 3, cells := 0, slots := 0, locals := 67 } s m args below meth c z 4 (MQ below (Qx z (wI Q)) args s 0 0 (own z)) (0) (0) 17 [] [] (S) := by
  refine G_bipush (pc := 17) C (v := -2) dX12_spoil_17 (by decide) ?_
  exact G_iret (pc := 19) C rfl dX12_spoil_19 ⟨_, rfl, hw⟩
set_option maxHeartbeats 4000000 in
set_option maxRecDepth 100000 in
theorem g_X12_spoil_52 (C : Cx p s m args meth c z cX12_spoil 4 RX12 (some .int) "spoil")  {Q : Int32 → Hp → Prop} {s0 : Int32} {S : Hp}   (hw : wp_X12_spoil_52  Q s0 S) : Go p l e { frames := 3, cells := 0, slots := 0, locals := 67 } s m args below meth c z 4 (MQ below (Qx z (wI Q)) args s 0 0 (own z)) (0) (0) 52 [] [.int (s0)] (S) := by
  exact G_iret (pc := 52) C rfl dX12_spoil_52 ⟨_, rfl, hw⟩
set_option maxHeartbeats 4000000 in
set_option maxRecDepth 100000 in
theorem c_X12_spoil (l : Launch) (z : Zt) (a0 : Nat) (x1 : Int32) (x2 : Int32) (x3 : Int32) (S : Hp) (Q : Int32 → Hp → Prop) (hw : wp_X12_spoil a0 x1 x2 x3 S Q) : Ct l z yX12_spoil cX12_spoil 4 (some .int) 3 67 0 0 [.ref (a0), .int (x1), .int (x2), .int (x3)] S (wI Q) := by
  refine Ct_of (by decide) (Nat.le_of_ble_eq_true rfl) ?_
  intro p e s m args below meth c C
  have C : Cx p s m args meth c z cX12_spoil 4 RX12 (some .int) "spoil" := C
  refine G_sub (lv' := [(0, .ref (a0)), (1, .int (x1)), (2, .int (x2)), (3, .int (x3))]) [0, 1, 2, 3] rfl ?_
  refine G_aload_n (pc := 0) C 0 dX12_spoil_0 rfl rfl ?_
  refine G_iload_n (pc := 1) C 1 dX12_spoil_1 rfl rfl ?_
  obtain ⟨hk, hw⟩ := hw
  refine cl_RX12_142 (pc := 2) C (c_X12_isPacket l z (a0) (x1) S _ hw) ⟨Nat.le_of_ble_eq_true rfl, Nat.le_of_ble_eq_true rfl⟩ hk dX12_spoil_2 (Nat.le_of_ble_eq_true rfl) (fun v S' hp => ?_)
  clear hw
  obtain ⟨hS, e1, rfl, hw⟩ := hp
  subst S'
  refine G_if_eq (pc := 5) C 17 dX12_spoil_5 (by decide) (fun hc => ?_) (fun hc => ?_)
  · have hw := hw.1 hc
    exact G_sub [] rfl (g_X12_spoil_17 C  hw)
  · have hw := hw.2 hc
    refine G_aload_n (pc := 8) C 0 dX12_spoil_8 rfl rfl ?_
    refine G_iload_n (pc := 9) C 1 dX12_spoil_9 rfl rfl ?_
    refine G_iload_n (pc := 10) C 2 dX12_spoil_10 rfl rfl ?_
    obtain ⟨hk, hw⟩ := hw
    refine cl_RX12_145 (pc := 11) C (c_X12_hasNumber l z (a0) (x1) (x2) S _ hw) ⟨Nat.le_of_ble_eq_true rfl, Nat.le_of_ble_eq_true rfl⟩ hk dX12_spoil_11 (Nat.le_of_ble_eq_true rfl) (fun v S' hp => ?_)
    clear hw
    obtain ⟨hS, e3, rfl, hw⟩ := hp
    subst S'
    refine G_if_ne (pc := 14) C 20 dX12_spoil_14 (by decide) (fun hc => ?_) (fun hc => ?_)
    · have hw := hw.1 hc
      refine G_iload_n (pc := 20) C 3 dX12_spoil_20 rfl rfl ?_
      refine G_i2l (pc := 21) C dX12_spoil_21 ?_
      refine G_lconst (pc := 22) C (v := 0) dX12_spoil_22 (by decide) ?_
      refine G_ldc2 (pc := 23) C kl_RX12_149 dX12_spoil_23 ?_
      refine cl_RX12_31 (pc := 26) C (c_X12_in l z ((x3).toInt64) ((0 : Int64)) ((28 : Int64)) S _ hw) ⟨Nat.le_of_ble_eq_true rfl, Nat.le_of_ble_eq_true rfl⟩ dX12_spoil_26 (Nat.le_of_ble_eq_true rfl) (fun v S' hp => ?_)
      clear hw
      obtain ⟨hS, e5, rfl, hw⟩ := hp
      subst S'
      refine G_if_eq (pc := 29) C 50 dX12_spoil_29 (by decide) (fun hc => ?_) (fun hc => ?_)
      · have hw := hw.1 hc
        refine G_bipush (pc := 50) C (v := -3) dX12_spoil_50 (by decide) ?_
        exact G_sub [] rfl (g_X12_spoil_52 C  hw)
      · have hw := hw.2 hc
        refine G_aload_n (pc := 32) C 0 dX12_spoil_32 rfl rfl ?_
        refine G_sipush (pc := 33) C (v := 450) dX12_spoil_33 (by decide) ?_
        refine G_bipush (pc := 36) C (v := 40) dX12_spoil_36 (by decide) ?_
        refine G_iload_n (pc := 38) C 1 dX12_spoil_38 rfl rfl ?_
        refine G_imul (pc := 39) C dX12_spoil_39 ?_
        refine G_iadd (pc := 40) C dX12_spoil_40 ?_
        refine G_iload_n (pc := 41) C 2 dX12_spoil_41 rfl rfl ?_
        refine G_iadd (pc := 42) C dX12_spoil_42 ?_
        refine G_iload_n (pc := 43) C 3 dX12_spoil_43 rfl rfl ?_
        obtain ⟨hk, hw⟩ := hw
        refine cl_RX12_125 (pc := 44) C (c_X12_changes l z (a0) ((((450 : Int32) + ((40 : Int32) * x1)) + x2)) (x3) S _ hw) ⟨Nat.le_of_ble_eq_true rfl, Nat.le_of_ble_eq_true rfl⟩ hk dX12_spoil_44 (Nat.le_of_ble_eq_true rfl) (fun v S' hp => ?_)
        clear hw
        obtain ⟨e7, rfl, hw⟩ := hp
        generalize S' = S8 at hw ⊢
        refine G_goto (pc := 47) C 52 dX12_spoil_47 (by decide) ?_
        exact G_sub [] rfl (g_X12_spoil_52 C  hw)
    · have hw := hw.2 hc
      exact G_sub [] rfl (g_X12_spoil_17 C  hw)
/-! FirstPartsModel.again(I)I -/
abbrev wp_X12_again_78 (K19 : Int32 → Int32 → Hp → Prop) (Q : Int32 → Hp → Prop) (v0 : Nat) (v1 : Int32) (v3 : Int32) (v4 : Int32) (s0 : Int32) (s1 : Int32) (S : Hp) : Prop :=
  ∀ e13 : Int32, e13 = (s1 + s0) → kd S v0 = 13 ∧ kd S v0 = 13 ∧ ∃ b14, (gR S 193 v0 0) = some b14 ∧ kd S b14 = 20 ∧ vp_in ((130 : Int32) + v4) (ln S b14) ∧ kd S b14 = 20 ∧ vp_in ((450 : Int32) + v4) (ln S b14) ∧ ∀ S15 : Hp, S15 = sI S 0 b14 (((450 : Int32) + v4)).toNatClampNeg (gI S 0 b14 (((130 : Int32) + v4)).toNatClampNeg) → ∀ e16 : Int32, e16 = (v3 + 1) → K19 (e13) (e16) (S15)
abbrev wp_X12_again_73 (K19 : Int32 → Int32 → Hp → Prop) (Q : Int32 → Hp → Prop) (v0 : Nat) (v1 : Int32) (v3 : Int32) (v4 : Int32) (s0 : Int32) (S : Hp) : Prop :=
  wp_X12_again_78 K19 Q (v0) (v1) (v3) (v4) ((1 : Int32)) (s0) (S)
abbrev wb_X12_again_19  (K19 : Int32 → Int32 → Hp → Prop) (Q : Int32 → Hp → Prop) (v0 : Nat) (v1 : Int32) (v2 : Int32) (v3 : Int32) (S : Hp) : Prop :=
  kd S v0 = 13 ∧ ∃ b5, (gR S 193 v0 0) = some b5 ∧ kd S b5 = 20 ∧ vp_in (95 : Int32) (ln S b5) ∧ (((gI S 0 b5 ((95 : Int32)).toNatClampNeg) ≤ v3 → kd S v0 = 13 ∧ ∃ b6, (gR S 193 v0 0) = some b6 ∧ kd S b6 = 20 ∧ vp_in ((114 : Int32) + v1) (ln S b6) ∧ ∀ S7 : Hp, S7 = sI S 0 b6 (((114 : Int32) + v1)).toNatClampNeg (0 : Int32) → kd S7 v0 = 13 ∧ kd S7 v0 = 13 ∧ ∃ b8, (gR S7 193 v0 0) = some b8 ∧ kd S7 b8 = 20 ∧ vp_in (95 : Int32) (ln S7 b8) ∧ kd S7 b8 = 20 ∧ vp_in ((122 : Int32) + v1) (ln S7 b8) ∧ ∀ S9 : Hp, S9 = sI S7 0 b8 (((122 : Int32) + v1)).toNatClampNeg (gI S7 0 b8 ((95 : Int32)).toNatClampNeg) → Q v2 S9) ∧ (¬ (gI S 0 b5 ((95 : Int32)).toNatClampNeg) ≤ v3 → ∀ e10 : Int32, e10 = (((40 : Int32) * v1) + v3) → kd S v0 = 13 ∧ wp_X12_hasNumber (v0) (v1) (v3) S (fun e11 => ((e11 = 0 → wp_X12_again_73 K19 Q (v0) (v1) (v3) (e10) (v2) (S)) ∧ (¬ e11 = 0 → kd S v0 = 13 ∧ ∃ b17, (gR S 193 v0 0) = some b17 ∧ kd S b17 = 20 ∧ vp_in ((450 : Int32) + e10) (ln S b17) ∧ kd S v0 = 13 ∧ ∃ b18, (gR S 193 v0 0) = some b18 ∧ kd S b18 = 20 ∧ vp_in ((130 : Int32) + e10) (ln S b18) ∧ (((gI S 0 b17 (((450 : Int32) + e10)).toNatClampNeg) = (gI S 0 b18 (((130 : Int32) + e10)).toNatClampNeg) → wp_X12_again_78 K19 Q (v0) (v1) (v3) (e10) ((0 : Int32)) (v2) (S)) ∧ (¬ (gI S 0 b17 (((450 : Int32) + e10)).toNatClampNeg) = (gI S 0 b18 (((130 : Int32) + e10)).toNatClampNeg) → wp_X12_again_73 K19 Q (v0) (v1) (v3) (e10) (v2) (S))))))))
abbrev wp_X12_again_19  (Q : Int32 → Hp → Prop) (v0 : Nat) (v1 : Int32) (v2 : Int32) (v3 : Int32) (S : Hp) : Prop :=
  Lp (X := Int32 × Int32 × Hp) (fun K y => wb_X12_again_19  (fun w0 w1 w2 => K (w0, w1, w2)) Q v0 v1 y.1 y.2.1 y.2.2) (v2, v3, S)
abbrev wp_X12_again (a0 : Nat) (x1 : Int32) (S : Hp) (Q : Int32 → Hp → Prop) : Prop :=
  kd S a0 = 13 ∧ wp_X12_isPacket (a0) (x1) S (fun e1 => ((e1 ≠ 0 → kd S a0 = 13 ∧ wp_X12_notes (a0) S (fun S4 => wp_X12_again_19 Q (a0) (x1) ((0 : Int32)) ((0 : Int32)) (S4))) ∧ (e1 = 0 → Q (-2 : Int32) S)))
set_option maxHeartbeats 4000000 in
set_option maxRecDepth 100000 in
theorem g_X12_again_78 (C : Cx p s m args meth c z cX12_again 5 RX12 (some .int) "again") {K19 : Int32 → Int32 → Hp → Prop} {Q : Int32 → Hp → Prop} {v0 : Nat} {v1 : Int32} {v3 : Int32} {v4 : Int32} {s0 : Int32} {s1 : Int32} {S : Hp}  (hK19 : ∀ (w2 : Int32) (w3 : Int32) (S2 : Hp), K19 w2 w3 S2 → Go p l e { frames := 2, cells := 0, slots := 0, locals := 47 } s m args below meth c z 5 (MQ below (Qx z (wI Q)) args s 0 0 (own z)) (0) (0) 19 [(0, .ref (v0)), (1, .int (v1)), (2, .int (w2)), (3, .int (w3))] [] (S2)) (hw : wp_X12_again_78 K19 Q v0 v1 v3 v4 s0 s1 S) : Go p l e { frames := 2, cells := 0, slots := 0, locals := 47 } s m args below meth c z 5 (MQ below (Qx z (wI Q)) args s 0 0 (own z)) (0) (0) 78 [(0, .ref (v0)), (1, .int (v1)), (3, .int (v3)), (4, .int (v4))] [.int (s0), .int (s1)] (S) := by
  refine G_iadd (pc := 78) C dX12_again_78 ?_
  refine G_topi (fun e13 he13 => ?_)
  have hw := hw e13 he13
  clear he13
  refine G_istore_n (pc := 79) C [(2, .int (e13)), (0, .ref (v0)), (1, .int (v1)), (3, .int (v3)), (4, .int (v4))] dX12_again_79 rfl (by decide) rfl ?_
  refine G_aload_n (pc := 80) C 1 dX12_again_80 rfl rfl ?_
  obtain ⟨hk, hw⟩ := hw
  refine gf_RX12_7 (pc := 81) C dX12_again_81 hk ?_
  refine G_sipush (pc := 84) C (v := 450) dX12_again_84 (by decide) ?_
  refine G_iload (pc := 87) C 4 dX12_again_87 rfl ?_
  refine G_iadd (pc := 89) C dX12_again_89 ?_
  refine G_aload_n (pc := 90) C 1 dX12_again_90 rfl rfl ?_
  obtain ⟨hk, hw⟩ := hw
  refine gf_RX12_7 (pc := 91) C dX12_again_91 hk ?_
  refine G_sipush (pc := 94) C (v := 130) dX12_again_94 (by decide) ?_
  refine G_iload (pc := 97) C 4 dX12_again_97 rfl ?_
  refine G_iadd (pc := 99) C dX12_again_99 ?_
  obtain ⟨b14, hq, hw⟩ := hw
  rw [hq]
  obtain ⟨hk, hi, hw⟩ := hw
  refine G_iald (pc := 100) C hk hi dX12_again_100 ?_
  obtain ⟨hk, hi, hw⟩ := hw
  refine G_iast (pc := 101) C hk hi dX12_again_101 ?_
  obtain ⟨S15, hS15⟩ : ∃ y : Hp, y = sI S 0 b14 (((450 : Int32) + v4)).toNatClampNeg (gI S 0 b14 (((130 : Int32) + v4)).toNatClampNeg) := ⟨_, rfl⟩
  have hw := hw S15 hS15
  rw [← hS15]
  clear hS15
  obtain ⟨e16, he16⟩ : ∃ y : Int32, y = (v3 + 1) := ⟨_, rfl⟩
  have hw := hw e16 he16
  refine G_iinc (pc := 102) C [(3, .int (e16)), (2, .int (e13)), (0, .ref (v0)), (1, .int (v1)), (4, .int (v4))] 3 (v := e16) dX12_again_102 rfl (by rw [he16]; rfl) (by decide) rfl ?_
  clear he16
  refine G_goto (pc := 105) C 19 dX12_again_105 (by decide) ?_
  exact G_sub [2, 3, 1, 0] rfl (hK19 _ _ _ hw)
set_option maxHeartbeats 4000000 in
set_option maxRecDepth 100000 in
theorem g_X12_again_73 (C : Cx p s m args meth c z cX12_again 5 RX12 (some .int) "again") {K19 : Int32 → Int32 → Hp → Prop} {Q : Int32 → Hp → Prop} {v0 : Nat} {v1 : Int32} {v3 : Int32} {v4 : Int32} {s0 : Int32} {S : Hp}  (hK19 : ∀ (w2 : Int32) (w3 : Int32) (S2 : Hp), K19 w2 w3 S2 → Go p l e { frames := 2, cells := 0, slots := 0, locals := 47 } s m args below meth c z 5 (MQ below (Qx z (wI Q)) args s 0 0 (own z)) (0) (0) 19 [(0, .ref (v0)), (1, .int (v1)), (2, .int (w2)), (3, .int (w3))] [] (S2)) (hw : wp_X12_again_73 K19 Q v0 v1 v3 v4 s0 S) : Go p l e { frames := 2, cells := 0, slots := 0, locals := 47 } s m args below meth c z 5 (MQ below (Qx z (wI Q)) args s 0 0 (own z)) (0) (0) 73 [(0, .ref (v0)), (1, .int (v1)), (3, .int (v3)), (4, .int (v4))] [.int (s0)] (S) := by
  refine G_iconst (pc := 73) C (v := 1) dX12_again_73 (by decide) ?_
  refine G_goto (pc := 74) C 78 dX12_again_74 (by decide) ?_
  exact G_sub [0, 1, 2, 3] rfl (g_X12_again_78 C hK19 hw)
set_option maxHeartbeats 4000000 in
set_option maxRecDepth 100000 in
theorem gb_X12_again_19 (C : Cx p s m args meth c z cX12_again 5 RX12 (some .int) "again") {K19 : Int32 → Int32 → Hp → Prop} {Q : Int32 → Hp → Prop} {v0 : Nat} {v1 : Int32} {v2 : Int32} {v3 : Int32} {S : Hp}  (hK19 : ∀ (w2 : Int32) (w3 : Int32) (S2 : Hp), K19 w2 w3 S2 → Go p l e { frames := 2, cells := 0, slots := 0, locals := 47 } s m args below meth c z 5 (MQ below (Qx z (wI Q)) args s 0 0 (own z)) (0) (0) 19 [(0, .ref (v0)), (1, .int (v1)), (2, .int (w2)), (3, .int (w3))] [] (S2)) (hw : wb_X12_again_19  K19 Q v0 v1 v2 v3 S) : Go p l e { frames := 2, cells := 0, slots := 0, locals := 47 } s m args below meth c z 5 (MQ below (Qx z (wI Q)) args s 0 0 (own z)) (0) (0) 19 [(0, .ref (v0)), (1, .int (v1)), (2, .int (v2)), (3, .int (v3))] [] (S) := by
  refine G_iload_n (pc := 19) C 3 dX12_again_19 rfl rfl ?_
  refine G_aload_n (pc := 20) C 0 dX12_again_20 rfl rfl ?_
  obtain ⟨hk, hw⟩ := hw
  refine gf_RX12_7 (pc := 21) C dX12_again_21 hk ?_
  refine G_bipush (pc := 24) C (v := 95) dX12_again_24 (by decide) ?_
  obtain ⟨b5, hq, hw⟩ := hw
  rw [hq]
  obtain ⟨hk, hi, hw⟩ := hw
  refine G_iald (pc := 26) C hk hi dX12_again_26 ?_
  refine G_icmp_ge (pc := 27) C 108 dX12_again_27 (by decide) (fun hc => ?_) (fun hc => ?_)
  · have hw := hw.1 hc
    refine G_aload_n (pc := 108) C 0 dX12_again_108 rfl rfl ?_
    obtain ⟨hk, hw⟩ := hw
    refine gf_RX12_7 (pc := 109) C dX12_again_109 hk ?_
    refine G_bipush (pc := 112) C (v := 114) dX12_again_112 (by decide) ?_
    refine G_iload_n (pc := 114) C 1 dX12_again_114 rfl rfl ?_
    refine G_iadd (pc := 115) C dX12_again_115 ?_
    refine G_iconst (pc := 116) C (v := 0) dX12_again_116 (by decide) ?_
    obtain ⟨b6, hq, hw⟩ := hw
    rw [hq]
    obtain ⟨hk, hi, hw⟩ := hw
    refine G_iast (pc := 117) C hk hi dX12_again_117 ?_
    obtain ⟨S7, hS7⟩ : ∃ y : Hp, y = sI S 0 b6 (((114 : Int32) + v1)).toNatClampNeg (0 : Int32) := ⟨_, rfl⟩
    have hw := hw S7 hS7
    rw [← hS7]
    clear hS7
    refine G_aload_n (pc := 118) C 0 dX12_again_118 rfl rfl ?_
    obtain ⟨hk, hw⟩ := hw
    refine gf_RX12_7 (pc := 119) C dX12_again_119 hk ?_
    refine G_bipush (pc := 122) C (v := 122) dX12_again_122 (by decide) ?_
    refine G_iload_n (pc := 124) C 1 dX12_again_124 rfl rfl ?_
    refine G_iadd (pc := 125) C dX12_again_125 ?_
    refine G_aload_n (pc := 126) C 0 dX12_again_126 rfl rfl ?_
    obtain ⟨hk, hw⟩ := hw
    refine gf_RX12_7 (pc := 127) C dX12_again_127 hk ?_
    refine G_bipush (pc := 130) C (v := 95) dX12_again_130 (by decide) ?_
    obtain ⟨b8, hq, hw⟩ := hw
    rw [hq]
    obtain ⟨hk, hi, hw⟩ := hw
    refine G_iald (pc := 132) C hk hi dX12_again_132 ?_
    obtain ⟨hk, hi, hw⟩ := hw
    refine G_iast (pc := 133) C hk hi dX12_again_133 ?_
    obtain ⟨S9, hS9⟩ : ∃ y : Hp, y = sI S7 0 b8 (((122 : Int32) + v1)).toNatClampNeg (gI S7 0 b8 ((95 : Int32)).toNatClampNeg) := ⟨_, rfl⟩
    have hw := hw S9 hS9
    rw [← hS9]
    clear hS9
    refine G_iload_n (pc := 134) C 2 dX12_again_134 rfl rfl ?_
    exact G_iret (pc := 135) C rfl dX12_again_135 ⟨_, rfl, hw⟩
  · have hw := hw.2 hc
    refine G_bipush (pc := 30) C (v := 40) dX12_again_30 (by decide) ?_
    refine G_iload_n (pc := 32) C 1 dX12_again_32 rfl rfl ?_
    refine G_imul (pc := 33) C dX12_again_33 ?_
    refine G_iload_n (pc := 34) C 3 dX12_again_34 rfl rfl ?_
    refine G_iadd (pc := 35) C dX12_again_35 ?_
    refine G_topi (fun e10 he10 => ?_)
    have hw := hw e10 he10
    clear he10
    refine G_istore (pc := 36) C [(4, .int (e10)), (0, .ref (v0)), (1, .int (v1)), (2, .int (v2)), (3, .int (v3))] dX12_again_36 (by decide) rfl ?_
    refine G_iload_n (pc := 38) C 3 dX12_again_38 rfl rfl ?_
    refine G_aload_n (pc := 39) C 1 dX12_again_39 rfl rfl ?_
    refine G_iload_n (pc := 40) C 2 dX12_again_40 rfl rfl ?_
    refine G_iload_n (pc := 41) C 4 dX12_again_41 rfl rfl ?_
    obtain ⟨hk, hw⟩ := hw
    refine cl_RX12_145 (pc := 42) C (c_X12_hasNumber l z (v0) (v1) (v3) S _ hw) ⟨Nat.le_of_ble_eq_true rfl, Nat.le_of_ble_eq_true rfl⟩ hk dX12_again_42 (Nat.le_of_ble_eq_true rfl) (fun v S' hp => ?_)
    clear hw
    obtain ⟨hS, e11, rfl, hw⟩ := hp
    subst S'
    refine G_if_eq (pc := 45) C 73 dX12_again_45 (by decide) (fun hc => ?_) (fun hc => ?_)
    · have hw := hw.1 hc
      exact G_sub [1, 2, 4, 0] rfl (g_X12_again_73 C hK19 hw)
    · have hw := hw.2 hc
      refine G_aload_n (pc := 48) C 1 dX12_again_48 rfl rfl ?_
      obtain ⟨hk, hw⟩ := hw
      refine gf_RX12_7 (pc := 49) C dX12_again_49 hk ?_
      refine G_sipush (pc := 52) C (v := 450) dX12_again_52 (by decide) ?_
      refine G_iload (pc := 55) C 0 dX12_again_55 rfl ?_
      refine G_iadd (pc := 57) C dX12_again_57 ?_
      obtain ⟨b17, hq, hw⟩ := hw
      rw [hq]
      obtain ⟨hk, hi, hw⟩ := hw
      refine G_iald (pc := 58) C hk hi dX12_again_58 ?_
      refine G_aload_n (pc := 59) C 1 dX12_again_59 rfl rfl ?_
      obtain ⟨hk, hw⟩ := hw
      refine gf_RX12_7 (pc := 60) C dX12_again_60 hk ?_
      refine G_sipush (pc := 63) C (v := 130) dX12_again_63 (by decide) ?_
      refine G_iload (pc := 66) C 0 dX12_again_66 rfl ?_
      refine G_iadd (pc := 68) C dX12_again_68 ?_
      obtain ⟨b18, hq, hw⟩ := hw
      rw [hq]
      obtain ⟨hk, hi, hw⟩ := hw
      refine G_iald (pc := 69) C hk hi dX12_again_69 ?_
      refine G_icmp_eq (pc := 70) C 77 dX12_again_70 (by decide) (fun hc => ?_) (fun hc => ?_)
      · have hw := hw.1 hc
        refine G_iconst (pc := 77) C (v := 0) dX12_again_77 (by decide) ?_
        exact G_sub [1, 2, 4, 0] rfl (g_X12_again_78 C hK19 hw)
      · have hw := hw.2 hc
        exact G_sub [1, 2, 4, 0] rfl (g_X12_again_73 C hK19 hw)
set_option maxHeartbeats 4000000 in
set_option maxRecDepth 100000 in
theorem g_X12_again_19 (C : Cx p s m args meth c z cX12_again 5 RX12 (some .int) "again")  {Q : Int32 → Hp → Prop} {v0 : Nat} {v1 : Int32} {v2 : Int32} {v3 : Int32} {S : Hp}   (hw : wp_X12_again_19  Q v0 v1 v2 v3 S) : Go p l e { frames := 2, cells := 0, slots := 0, locals := 47 } s m args below meth c z 5 (MQ below (Qx z (wI Q)) args s 0 0 (own z)) (0) (0) 19 [(0, .ref (v0)), (1, .int (v1)), (2, .int (v2)), (3, .int (v3))] [] (S) :=
  Lp_go (G := fun y : Int32 × Int32 × Hp => Go p l e { frames := 2, cells := 0, slots := 0, locals := 47 } s m args below meth c z 5 (MQ below (Qx z (wI Q)) args s 0 0 (own z)) (0) (0) 19 [(0, .ref (v0)), (1, .int (v1)), (2, .int (y.1)), (3, .int (y.2.1))] [] (y.2.2)) (fun K y hK hB => gb_X12_again_19 C  (fun w0 w1 w2 h => hK (w0, w1, w2) h) hB) hw
set_option maxHeartbeats 4000000 in
set_option maxRecDepth 100000 in
theorem c_X12_again (l : Launch) (z : Zt) (a0 : Nat) (x1 : Int32) (S : Hp) (Q : Int32 → Hp → Prop) (hw : wp_X12_again a0 x1 S Q) : Ct l z yX12_again cX12_again 5 (some .int) 2 47 0 0 [.ref (a0), .int (x1)] S (wI Q) := by
  refine Ct_of (by decide) (Nat.le_of_ble_eq_true rfl) ?_
  intro p e s m args below meth c C
  have C : Cx p s m args meth c z cX12_again 5 RX12 (some .int) "again" := C
  refine G_sub (lv' := [(0, .ref (a0)), (1, .int (x1))]) [0, 1] rfl ?_
  refine G_aload_n (pc := 0) C 0 dX12_again_0 rfl rfl ?_
  refine G_iload_n (pc := 1) C 1 dX12_again_1 rfl rfl ?_
  obtain ⟨hk, hw⟩ := hw
  refine cl_RX12_142 (pc := 2) C (c_X12_isPacket l z (a0) (x1) S _ hw) ⟨Nat.le_of_ble_eq_true rfl, Nat.le_of_ble_eq_true rfl⟩ hk dX12_again_2 (Nat.le_of_ble_eq_true rfl) (fun v S' hp => ?_)
  clear hw
  obtain ⟨hS, e1, rfl, hw⟩ := hp
  subst S'
  refine G_if_ne (pc := 5) C 11 dX12_again_5 (by decide) (fun hc => ?_) (fun hc => ?_)
  · have hw := hw.1 hc
    refine G_aload_n (pc := 11) C 0 dX12_again_11 rfl rfl ?_
    obtain ⟨hk, hw⟩ := hw
    refine cl_RX12_120 (pc := 12) C (c_X12_notes l z (a0) S _ hw) ⟨Nat.le_of_ble_eq_true rfl, Nat.le_of_ble_eq_true rfl⟩ hk dX12_again_12 (Nat.le_of_ble_eq_true rfl) (fun v S' hp => ?_)
    clear hw
    obtain ⟨rfl, hw⟩ := hp
    generalize S' = S4 at hw ⊢
    refine G_iconst (pc := 15) C (v := 0) dX12_again_15 (by decide) ?_
    refine G_istore_n (pc := 16) C [(2, .int ((0 : Int32))), (0, .ref (a0)), (1, .int (x1))] dX12_again_16 rfl (by decide) rfl ?_
    refine G_iconst (pc := 17) C (v := 0) dX12_again_17 (by decide) ?_
    refine G_istore_n (pc := 18) C [(3, .int ((0 : Int32))), (2, .int ((0 : Int32))), (0, .ref (a0)), (1, .int (x1))] dX12_again_18 rfl (by decide) rfl ?_
    exact G_sub [2, 3, 1, 0] rfl (g_X12_again_19 C  hw)
  · have hw := hw.2 hc
    refine G_bipush (pc := 8) C (v := -2) dX12_again_8 (by decide) ?_
    exact G_iret (pc := 10) C rfl dX12_again_10 ⟨_, rfl, hw⟩
/-! FirstPartsModel.undo()I -/
abbrev wp_X12_undo (a0 : Nat) (S : Hp) (Q : Int32 → Hp → Prop) : Prop :=
  kd S a0 = 13 ∧ (((gI S 194 a0 0) ≠ 0 → kd S a0 = 13 ∧ kd S a0 = 13 ∧ ∀ S1 : Hp, S1 = sI S 194 a0 0 ((gI S 194 a0 0) - (1 : Int32)) → kd S1 a0 = 13 ∧ kd S1 a0 = 13 ∧ wp_X12_copyRow (a0) (((770 : Int32) + ((770 : Int32) * (gI S1 194 a0 0)))) ((0 : Int32)) S1 (fun S3 => kd S3 a0 = 13 ∧ Q (gI S3 194 a0 0) S3)) ∧ ((gI S 194 a0 0) = 0 → Q (-4 : Int32) S))
set_option maxHeartbeats 4000000 in
set_option maxRecDepth 100000 in
theorem c_X12_undo (l : Launch) (z : Zt) (a0 : Nat) (S : Hp) (Q : Int32 → Hp → Prop) (hw : wp_X12_undo a0 S Q) : Ct l z yX12_undo cX12_undo 1 (some .int) 1 23 0 0 [.ref (a0)] S (wI Q) := by
  refine Ct_of (by decide) (Nat.le_of_ble_eq_true rfl) ?_
  intro p e s m args below meth c C
  have C : Cx p s m args meth c z cX12_undo 1 RX12 (some .int) "undo" := C
  refine G_sub (lv' := [(0, .ref (a0))]) [0] rfl ?_
  refine G_aload_n (pc := 0) C 0 dX12_undo_0 rfl rfl ?_
  obtain ⟨hk, hw⟩ := hw
  refine gf_RX12_108 (pc := 1) C dX12_undo_1 hk ?_
  refine G_if_ne (pc := 4) C 10 dX12_undo_4 (by decide) (fun hc => ?_) (fun hc => ?_)
  · have hw := hw.1 hc
    refine G_aload_n (pc := 10) C 0 dX12_undo_10 rfl rfl ?_
    refine G_dup (pc := 11) C dX12_undo_11 rfl ?_
    obtain ⟨hk, hw⟩ := hw
    refine gf_RX12_108 (pc := 12) C dX12_undo_12 hk ?_
    refine G_iconst (pc := 15) C (v := 1) dX12_undo_15 (by decide) ?_
    refine G_isub (pc := 16) C dX12_undo_16 ?_
    obtain ⟨hk, hw⟩ := hw
    refine pf_RX12_108 (pc := 17) C dX12_undo_17 hk ?_
    obtain ⟨S1, hS1⟩ : ∃ y : Hp, y = sI S 194 a0 0 ((gI S 194 a0 0) - (1 : Int32)) := ⟨_, rfl⟩
    have hw := hw S1 hS1
    rw [← hS1]
    clear hS1
    refine G_aload_n (pc := 20) C 0 dX12_undo_20 rfl rfl ?_
    refine G_sipush (pc := 21) C (v := 770) dX12_undo_21 (by decide) ?_
    refine G_sipush (pc := 24) C (v := 770) dX12_undo_24 (by decide) ?_
    refine G_aload_n (pc := 27) C 0 dX12_undo_27 rfl rfl ?_
    obtain ⟨hk, hw⟩ := hw
    refine gf_RX12_108 (pc := 28) C dX12_undo_28 hk ?_
    refine G_imul (pc := 31) C dX12_undo_31 ?_
    refine G_iadd (pc := 32) C dX12_undo_32 ?_
    refine G_iconst (pc := 33) C (v := 0) dX12_undo_33 (by decide) ?_
    obtain ⟨hk, hw⟩ := hw
    refine cl_RX12_116 (pc := 34) C (c_X12_copyRow l z (a0) (((770 : Int32) + ((770 : Int32) * (gI S1 194 a0 0)))) ((0 : Int32)) S1 _ hw) ⟨Nat.le_of_ble_eq_true rfl, Nat.le_of_ble_eq_true rfl⟩ hk dX12_undo_34 (Nat.le_of_ble_eq_true rfl) (fun v S' hp => ?_)
    clear hw
    obtain ⟨rfl, hw⟩ := hp
    generalize S' = S3 at hw ⊢
    refine G_aload_n (pc := 37) C 0 dX12_undo_37 rfl rfl ?_
    obtain ⟨hk, hw⟩ := hw
    refine gf_RX12_108 (pc := 38) C dX12_undo_38 hk ?_
    exact G_iret (pc := 41) C rfl dX12_undo_41 ⟨_, rfl, hw⟩
  · have hw := hw.2 hc
    refine G_bipush (pc := 7) C (v := -4) dX12_undo_7 (by decide) ?_
    exact G_iret (pc := 9) C rfl dX12_undo_9 ⟨_, rfl, hw⟩
/-! FirstPartsModel.number(II)I -/
abbrev wp_X12_number_27  (Q : Int32 → Prop)  (S : Hp) : Prop :=
  Q (-2 : Int32)
abbrev wp_X12_number_58  (Q : Int32 → Prop) (s0 : Int32) (S : Hp) : Prop :=
  Q s0
abbrev wp_X12_number (a0 : Nat) (x1 : Int32) (x2 : Int32) (S : Hp) (Q : Int32 → Prop) : Prop :=
  kd S a0 = 13 ∧ wp_X12_isPacket (a0) (x1) S (fun e1 => ((e1 = 0 → wp_X12_number_27 Q (S)) ∧ (¬ e1 = 0 → kd S a0 = 13 ∧ ∃ b3, (gR S 193 a0 0) = some b3 ∧ kd S b3 = 20 ∧ vp_in (95 : Int32) (ln S b3) ∧ wp_X12_in ((x2).toInt64) ((0 : Int64)) ((((gI S 0 b3 ((95 : Int32)).toNatClampNeg) - (1 : Int32))).toInt64) S (fun e4 => ((e4 ≠ 0 → kd S a0 = 13 ∧ wp_X12_hasNumber (a0) (x1) (x2) S (fun e6 => ((e6 = 0 → wp_X12_number_58 Q ((-1 : Int32)) (S)) ∧ (¬ e6 = 0 → kd S a0 = 13 ∧ ∃ b8, (gR S 193 a0 0) = some b8 ∧ kd S b8 = 20 ∧ vp_in (((450 : Int32) + ((40 : Int32) * x1)) + x2) (ln S b8) ∧ wp_X12_number_58 Q ((gI S 0 b8 ((((450 : Int32) + ((40 : Int32) * x1)) + x2)).toNatClampNeg)) (S))))) ∧ (e4 = 0 → wp_X12_number_27 Q (S)))))))
set_option maxHeartbeats 4000000 in
set_option maxRecDepth 100000 in
theorem g_X12_number_27 (C : Cx p s m args meth c z cX12_number 3 RX12 (some .int) "number")  {Q : Int32 → Prop}  {S : Hp}   (hw : wp_X12_number_27  Q  S) : Go p l e { frames := 2, cells := 0, slots := 0, locals := 47 } s m args below meth c z 3 (MQ below (Qx z (pI S Q)) args s 0 0 (own z)) (0) (0) 27 [] [] (S) := by
  refine G_bipush (pc := 27) C (v := -2) dX12_number_27 (by decide) ?_
  exact G_iret (pc := 29) C rfl dX12_number_29 ⟨rfl, _, rfl, hw⟩
set_option maxHeartbeats 4000000 in
set_option maxRecDepth 100000 in
theorem g_X12_number_58 (C : Cx p s m args meth c z cX12_number 3 RX12 (some .int) "number")  {Q : Int32 → Prop} {s0 : Int32} {S : Hp}   (hw : wp_X12_number_58  Q s0 S) : Go p l e { frames := 2, cells := 0, slots := 0, locals := 47 } s m args below meth c z 3 (MQ below (Qx z (pI S Q)) args s 0 0 (own z)) (0) (0) 58 [] [.int (s0)] (S) := by
  exact G_iret (pc := 58) C rfl dX12_number_58 ⟨rfl, _, rfl, hw⟩
set_option maxHeartbeats 4000000 in
set_option maxRecDepth 100000 in
theorem c_X12_number (l : Launch) (z : Zt) (a0 : Nat) (x1 : Int32) (x2 : Int32) (S : Hp) (Q : Int32 → Prop) (hw : wp_X12_number a0 x1 x2 S Q) : Ct l z yX12_number cX12_number 3 (some .int) 2 47 0 0 [.ref (a0), .int (x1), .int (x2)] S (pI S Q) := by
  refine Ct_of (by decide) (Nat.le_of_ble_eq_true rfl) ?_
  intro p e s m args below meth c C
  have C : Cx p s m args meth c z cX12_number 3 RX12 (some .int) "number" := C
  refine G_sub (lv' := [(0, .ref (a0)), (1, .int (x1)), (2, .int (x2))]) [0, 1, 2] rfl ?_
  refine G_aload_n (pc := 0) C 0 dX12_number_0 rfl rfl ?_
  refine G_iload_n (pc := 1) C 1 dX12_number_1 rfl rfl ?_
  obtain ⟨hk, hw⟩ := hw
  refine cl_RX12_142 (pc := 2) C (c_X12_isPacket l z (a0) (x1) S _ hw) ⟨Nat.le_of_ble_eq_true rfl, Nat.le_of_ble_eq_true rfl⟩ hk dX12_number_2 (Nat.le_of_ble_eq_true rfl) (fun v S' hp => ?_)
  clear hw
  obtain ⟨hS, e1, rfl, hw⟩ := hp
  subst S'
  refine G_if_eq (pc := 5) C 27 dX12_number_5 (by decide) (fun hc => ?_) (fun hc => ?_)
  · have hw := hw.1 hc
    exact G_sub [] rfl (g_X12_number_27 C  hw)
  · have hw := hw.2 hc
    refine G_iload_n (pc := 8) C 2 dX12_number_8 rfl rfl ?_
    refine G_i2l (pc := 9) C dX12_number_9 ?_
    refine G_lconst (pc := 10) C (v := 0) dX12_number_10 (by decide) ?_
    refine G_aload_n (pc := 11) C 0 dX12_number_11 rfl rfl ?_
    obtain ⟨hk, hw⟩ := hw
    refine gf_RX12_7 (pc := 12) C dX12_number_12 hk ?_
    refine G_bipush (pc := 15) C (v := 95) dX12_number_15 (by decide) ?_
    obtain ⟨b3, hq, hw⟩ := hw
    rw [hq]
    obtain ⟨hk, hi, hw⟩ := hw
    refine G_iald (pc := 17) C hk hi dX12_number_17 ?_
    refine G_iconst (pc := 18) C (v := 1) dX12_number_18 (by decide) ?_
    refine G_isub (pc := 19) C dX12_number_19 ?_
    refine G_i2l (pc := 20) C dX12_number_20 ?_
    refine cl_RX12_31 (pc := 21) C (c_X12_in l z ((x2).toInt64) ((0 : Int64)) ((((gI S 0 b3 ((95 : Int32)).toNatClampNeg) - (1 : Int32))).toInt64) S _ hw) ⟨Nat.le_of_ble_eq_true rfl, Nat.le_of_ble_eq_true rfl⟩ dX12_number_21 (Nat.le_of_ble_eq_true rfl) (fun v S' hp => ?_)
    clear hw
    obtain ⟨hS, e4, rfl, hw⟩ := hp
    subst S'
    refine G_if_ne (pc := 24) C 30 dX12_number_24 (by decide) (fun hc => ?_) (fun hc => ?_)
    · have hw := hw.1 hc
      refine G_aload_n (pc := 30) C 0 dX12_number_30 rfl rfl ?_
      refine G_iload_n (pc := 31) C 1 dX12_number_31 rfl rfl ?_
      refine G_iload_n (pc := 32) C 2 dX12_number_32 rfl rfl ?_
      obtain ⟨hk, hw⟩ := hw
      refine cl_RX12_145 (pc := 33) C (c_X12_hasNumber l z (a0) (x1) (x2) S _ hw) ⟨Nat.le_of_ble_eq_true rfl, Nat.le_of_ble_eq_true rfl⟩ hk dX12_number_33 (Nat.le_of_ble_eq_true rfl) (fun v S' hp => ?_)
      clear hw
      obtain ⟨hS, e6, rfl, hw⟩ := hp
      subst S'
      refine G_if_eq (pc := 36) C 57 dX12_number_36 (by decide) (fun hc => ?_) (fun hc => ?_)
      · have hw := hw.1 hc
        refine G_iconst (pc := 57) C (v := -1) dX12_number_57 (by decide) ?_
        exact G_sub [] rfl (g_X12_number_58 C  hw)
      · have hw := hw.2 hc
        refine G_aload_n (pc := 39) C 0 dX12_number_39 rfl rfl ?_
        obtain ⟨hk, hw⟩ := hw
        refine gf_RX12_7 (pc := 40) C dX12_number_40 hk ?_
        refine G_sipush (pc := 43) C (v := 450) dX12_number_43 (by decide) ?_
        refine G_bipush (pc := 46) C (v := 40) dX12_number_46 (by decide) ?_
        refine G_iload_n (pc := 48) C 1 dX12_number_48 rfl rfl ?_
        refine G_imul (pc := 49) C dX12_number_49 ?_
        refine G_iadd (pc := 50) C dX12_number_50 ?_
        refine G_iload_n (pc := 51) C 2 dX12_number_51 rfl rfl ?_
        refine G_iadd (pc := 52) C dX12_number_52 ?_
        obtain ⟨b8, hq, hw⟩ := hw
        rw [hq]
        obtain ⟨hk, hi, hw⟩ := hw
        refine G_iald (pc := 53) C hk hi dX12_number_53 ?_
        refine G_goto (pc := 54) C 58 dX12_number_54 (by decide) ?_
        exact G_sub [] rfl (g_X12_number_58 C  hw)
    · have hw := hw.2 hc
      exact G_sub [] rfl (g_X12_number_27 C  hw)
/-! FirstPartsModel.isPacked(I)Z -/
abbrev wp_X12_isPacked (a0 : Nat) (x1 : Int32) (S : Hp) (Q : Int32 → Prop) : Prop :=
  kd S a0 = 13 ∧ ∃ b1, (gR S 193 a0 0) = some b1 ∧ kd S b1 = 20 ∧ vp_in (93 : Int32) (ln S b1) ∧ wp_X12_in ((x1).toInt64) ((0 : Int64)) ((((gI S 0 b1 ((93 : Int32)).toNatClampNeg) - (1 : Int32))).toInt64) S (fun e2 => (e2 = 0 ∨ e2 = 1) ∧ Q e2)
set_option maxHeartbeats 4000000 in
set_option maxRecDepth 100000 in
theorem c_X12_isPacked (l : Launch) (z : Zt) (a0 : Nat) (x1 : Int32) (S : Hp) (Q : Int32 → Prop) (hw : wp_X12_isPacked a0 x1 S Q) : Ct l z yX12_isPacked cX12_isPacked 2 (some .boolean) 1 25 0 0 [.ref (a0), .int (x1)] S (pI S Q) := by
  refine Ct_of (by decide) (Nat.le_of_ble_eq_true rfl) ?_
  intro p e s m args below meth c C
  have C : Cx p s m args meth c z cX12_isPacked 2 RX12 (some .boolean) "isPacked" := C
  refine G_sub (lv' := [(0, .ref (a0)), (1, .int (x1))]) [0, 1] rfl ?_
  refine G_iload_n (pc := 0) C 1 dX12_isPacked_0 rfl rfl ?_
  refine G_i2l (pc := 1) C dX12_isPacked_1 ?_
  refine G_lconst (pc := 2) C (v := 0) dX12_isPacked_2 (by decide) ?_
  refine G_aload_n (pc := 3) C 0 dX12_isPacked_3 rfl rfl ?_
  obtain ⟨hk, hw⟩ := hw
  refine gf_RX12_7 (pc := 4) C dX12_isPacked_4 hk ?_
  refine G_bipush (pc := 7) C (v := 93) dX12_isPacked_7 (by decide) ?_
  obtain ⟨b1, hq, hw⟩ := hw
  rw [hq]
  obtain ⟨hk, hi, hw⟩ := hw
  refine G_iald (pc := 9) C hk hi dX12_isPacked_9 ?_
  refine G_iconst (pc := 10) C (v := 1) dX12_isPacked_10 (by decide) ?_
  refine G_isub (pc := 11) C dX12_isPacked_11 ?_
  refine G_i2l (pc := 12) C dX12_isPacked_12 ?_
  refine cl_RX12_31 (pc := 13) C (c_X12_in l z ((x1).toInt64) ((0 : Int64)) ((((gI S 0 b1 ((93 : Int32)).toNatClampNeg) - (1 : Int32))).toInt64) S _ hw) ⟨Nat.le_of_ble_eq_true rfl, Nat.le_of_ble_eq_true rfl⟩ dX12_isPacked_13 (Nat.le_of_ble_eq_true rfl) (fun v S' hp => ?_)
  clear hw
  obtain ⟨hS, e2, rfl, hw⟩ := hp
  subst S'
  obtain ⟨hb, hw⟩ := hw
  exact G_zret (pc := 16) C rfl hb dX12_isPacked_16 ⟨rfl, _, rfl, hw⟩
/-! FirstPartsModel.packedNeed(I)I -/
abbrev wp_X12_packedNeed (a0 : Nat) (x1 : Int32) (S : Hp) (Q : Int32 → Prop) : Prop :=
  kd S a0 = 13 ∧ ∃ b1, (gR S 193 a0 0) = some b1 ∧ kd S b1 = 20 ∧ vp_in (((96 : Int32) + ((3 : Int32) * x1)) + (1 : Int32)) (ln S b1) ∧ Q (gI S 0 b1 ((((96 : Int32) + ((3 : Int32) * x1)) + (1 : Int32))).toNatClampNeg)
set_option maxHeartbeats 4000000 in
set_option maxRecDepth 100000 in
theorem c_X12_packedNeed (l : Launch) (z : Zt) (a0 : Nat) (x1 : Int32) (S : Hp) (Q : Int32 → Prop) (hw : wp_X12_packedNeed a0 x1 S Q) : Ct l z yX12_packedNeed cX12_packedNeed 2 (some .int) 0 0 0 0 [.ref (a0), .int (x1)] S (pI S Q) := by
  refine Ct_of (by decide) (Nat.le_of_ble_eq_true rfl) ?_
  intro p e s m args below meth c C
  have C : Cx p s m args meth c z cX12_packedNeed 2 RX12 (some .int) "packedNeed" := C
  refine G_sub (lv' := [(0, .ref (a0)), (1, .int (x1))]) [0, 1] rfl ?_
  refine G_aload_n (pc := 0) C 0 dX12_packedNeed_0 rfl rfl ?_
  obtain ⟨hk, hw⟩ := hw
  refine gf_RX12_7 (pc := 1) C dX12_packedNeed_1 hk ?_
  refine G_bipush (pc := 4) C (v := 96) dX12_packedNeed_4 (by decide) ?_
  refine G_iconst (pc := 6) C (v := 3) dX12_packedNeed_6 (by decide) ?_
  refine G_iload_n (pc := 7) C 1 dX12_packedNeed_7 rfl rfl ?_
  refine G_imul (pc := 8) C dX12_packedNeed_8 ?_
  refine G_iadd (pc := 9) C dX12_packedNeed_9 ?_
  refine G_iconst (pc := 10) C (v := 1) dX12_packedNeed_10 (by decide) ?_
  refine G_iadd (pc := 11) C dX12_packedNeed_11 ?_
  obtain ⟨b1, hq, hw⟩ := hw
  rw [hq]
  obtain ⟨hk, hi, hw⟩ := hw
  refine G_iald (pc := 12) C hk hi dX12_packedNeed_12 ?_
  exact G_iret (pc := 13) C rfl dX12_packedNeed_13 ⟨rfl, _, rfl, hw⟩
/-! FirstPartsModel.packedFirst(I)I -/
abbrev wp_X12_packedFirst (a0 : Nat) (x1 : Int32) (S : Hp) (Q : Int32 → Prop) : Prop :=
  kd S a0 = 13 ∧ ∃ b1, (gR S 193 a0 0) = some b1 ∧ kd S b1 = 20 ∧ vp_in (((96 : Int32) + ((3 : Int32) * x1)) + (2 : Int32)) (ln S b1) ∧ Q (gI S 0 b1 ((((96 : Int32) + ((3 : Int32) * x1)) + (2 : Int32))).toNatClampNeg)
set_option maxHeartbeats 4000000 in
set_option maxRecDepth 100000 in
theorem c_X12_packedFirst (l : Launch) (z : Zt) (a0 : Nat) (x1 : Int32) (S : Hp) (Q : Int32 → Prop) (hw : wp_X12_packedFirst a0 x1 S Q) : Ct l z yX12_packedFirst cX12_packedFirst 2 (some .int) 0 0 0 0 [.ref (a0), .int (x1)] S (pI S Q) := by
  refine Ct_of (by decide) (Nat.le_of_ble_eq_true rfl) ?_
  intro p e s m args below meth c C
  have C : Cx p s m args meth c z cX12_packedFirst 2 RX12 (some .int) "packedFirst" := C
  refine G_sub (lv' := [(0, .ref (a0)), (1, .int (x1))]) [0, 1] rfl ?_
  refine G_aload_n (pc := 0) C 0 dX12_packedFirst_0 rfl rfl ?_
  obtain ⟨hk, hw⟩ := hw
  refine gf_RX12_7 (pc := 1) C dX12_packedFirst_1 hk ?_
  refine G_bipush (pc := 4) C (v := 96) dX12_packedFirst_4 (by decide) ?_
  refine G_iconst (pc := 6) C (v := 3) dX12_packedFirst_6 (by decide) ?_
  refine G_iload_n (pc := 7) C 1 dX12_packedFirst_7 rfl rfl ?_
  refine G_imul (pc := 8) C dX12_packedFirst_8 ?_
  refine G_iadd (pc := 9) C dX12_packedFirst_9 ?_
  refine G_iconst (pc := 10) C (v := 2) dX12_packedFirst_10 (by decide) ?_
  refine G_iadd (pc := 11) C dX12_packedFirst_11 ?_
  obtain ⟨b1, hq, hw⟩ := hw
  rw [hq]
  obtain ⟨hk, hi, hw⟩ := hw
  refine G_iald (pc := 12) C hk hi dX12_packedFirst_12 ?_
  exact G_iret (pc := 13) C rfl dX12_packedFirst_13 ⟨rfl, _, rfl, hw⟩
/-! FirstPartsModel.packedStripes(I)I -/
abbrev wp_X12_packedStripes (a0 : Nat) (x1 : Int32) (S : Hp) (Q : Int32 → Prop) : Prop :=
  kd S a0 = 13 ∧ ∃ b1, (gR S 193 a0 0) = some b1 ∧ kd S b1 = 20 ∧ vp_in ((96 : Int32) + ((3 : Int32) * x1)) (ln S b1) ∧ kd S a0 = 13 ∧ wp_X12_packedNeed (a0) (x1) S (fun e2 => wp_X12_stripes ((gI S 0 b1 (((96 : Int32) + ((3 : Int32) * x1))).toNatClampNeg)) (e2) S (fun e4 => Q e4))
set_option maxHeartbeats 4000000 in
set_option maxRecDepth 100000 in
theorem c_X12_packedStripes (l : Launch) (z : Zt) (a0 : Nat) (x1 : Int32) (S : Hp) (Q : Int32 → Prop) (hw : wp_X12_packedStripes a0 x1 S Q) : Ct l z yX12_packedStripes cX12_packedStripes 2 (some .int) 1 21 0 0 [.ref (a0), .int (x1)] S (pI S Q) := by
  refine Ct_of (by decide) (Nat.le_of_ble_eq_true rfl) ?_
  intro p e s m args below meth c C
  have C : Cx p s m args meth c z cX12_packedStripes 2 RX12 (some .int) "packedStripes" := C
  refine G_sub (lv' := [(0, .ref (a0)), (1, .int (x1))]) [0, 1] rfl ?_
  refine G_aload_n (pc := 0) C 0 dX12_packedStripes_0 rfl rfl ?_
  obtain ⟨hk, hw⟩ := hw
  refine gf_RX12_7 (pc := 1) C dX12_packedStripes_1 hk ?_
  refine G_bipush (pc := 4) C (v := 96) dX12_packedStripes_4 (by decide) ?_
  refine G_iconst (pc := 6) C (v := 3) dX12_packedStripes_6 (by decide) ?_
  refine G_iload_n (pc := 7) C 1 dX12_packedStripes_7 rfl rfl ?_
  refine G_imul (pc := 8) C dX12_packedStripes_8 ?_
  refine G_iadd (pc := 9) C dX12_packedStripes_9 ?_
  obtain ⟨b1, hq, hw⟩ := hw
  rw [hq]
  obtain ⟨hk, hi, hw⟩ := hw
  refine G_iald (pc := 10) C hk hi dX12_packedStripes_10 ?_
  refine G_aload_n (pc := 11) C 0 dX12_packedStripes_11 rfl rfl ?_
  refine G_iload_n (pc := 12) C 1 dX12_packedStripes_12 rfl rfl ?_
  obtain ⟨hk, hw⟩ := hw
  refine cl_RX12_151 (pc := 13) C (c_X12_packedNeed l z (a0) (x1) S _ hw) ⟨Nat.le_of_ble_eq_true rfl, Nat.le_of_ble_eq_true rfl⟩ hk dX12_packedStripes_13 (Nat.le_of_ble_eq_true rfl) (fun v S' hp => ?_)
  clear hw
  obtain ⟨hS, e2, rfl, hw⟩ := hp
  subst S'
  refine cl_RX12_39 (pc := 16) C (c_X12_stripes l z ((gI S 0 b1 (((96 : Int32) + ((3 : Int32) * x1))).toNatClampNeg)) (e2) S _ hw) ⟨Nat.le_of_ble_eq_true rfl, Nat.le_of_ble_eq_true rfl⟩ dX12_packedStripes_16 (Nat.le_of_ble_eq_true rfl) (fun v S' hp => ?_)
  clear hw
  obtain ⟨hS, e4, rfl, hw⟩ := hp
  subst S'
  exact G_iret (pc := 19) C rfl dX12_packedStripes_19 ⟨rfl, _, rfl, hw⟩
/-! FirstPartsModel.holders(I)I -/
abbrev wp_X12_holders_32 (K4 : Int32 → Int32 → Prop) (Q : Int32 → Prop) (v0 : Nat) (v1 : Int32) (v3 : Int32) (s0 : Int32) (s1 : Int32) (S : Hp) : Prop :=
  ∀ e4 : Int32, e4 = (s1 ||| s0) → ∀ e5 : Int32, e5 = (v3 + 1) → K4 (e4) (e5)
abbrev wb_X12_holders_4  (K4 : Int32 → Int32 → Prop) (Q : Int32 → Prop) (v0 : Nat) (v1 : Int32) (v2 : Int32) (v3 : Int32) (S : Hp) : Prop :=
  kd S v0 = 13 ∧ ∃ b1, (gR S 193 v0 0) = some b1 ∧ kd S b1 = 20 ∧ vp_in (94 : Int32) (ln S b1) ∧ (((gI S 0 b1 ((94 : Int32)).toNatClampNeg) ≤ v3 → Q v2) ∧ (¬ (gI S 0 b1 ((94 : Int32)).toNatClampNeg) ≤ v3 → kd S v0 = 13 ∧ wp_X12_hasNumber (v0) (v3) (v1) S (fun e2 => ((e2 = 0 → wp_X12_holders_32 K4 Q (v0) (v1) (v3) ((0 : Int32)) (v2) (S)) ∧ (¬ e2 = 0 → wp_X12_holders_32 K4 Q (v0) (v1) (v3) (((1 : Int32) <<< (v3 &&& 31))) (v2) (S))))))
abbrev wp_X12_holders_4  (Q : Int32 → Prop) (v0 : Nat) (v1 : Int32) (v2 : Int32) (v3 : Int32) (S : Hp) : Prop :=
  Lp (X := Int32 × Int32) (fun K y => wb_X12_holders_4  (fun w0 w1 => K (w0, w1)) Q v0 v1 y.1 y.2 S) (v2, v3)
abbrev wp_X12_holders (a0 : Nat) (x1 : Int32) (S : Hp) (Q : Int32 → Prop) : Prop :=
  wp_X12_holders_4 Q (a0) (x1) ((0 : Int32)) ((0 : Int32)) (S)
set_option maxHeartbeats 4000000 in
set_option maxRecDepth 100000 in
theorem g_X12_holders_32 (C : Cx p s m args meth c z cX12_holders 4 RX12 (some .int) "holders") {K4 : Int32 → Int32 → Prop} {Q : Int32 → Prop} {v0 : Nat} {v1 : Int32} {v3 : Int32} {s0 : Int32} {s1 : Int32} {S : Hp}  (hK4 : ∀ (w2 : Int32) (w3 : Int32), K4 w2 w3 → Go p l e { frames := 2, cells := 0, slots := 0, locals := 47 } s m args below meth c z 4 (MQ below (Qx z (pI S Q)) args s 0 0 (own z)) (0) (0) 4 [(0, .ref (v0)), (1, .int (v1)), (2, .int (w2)), (3, .int (w3))] [] (S)) (hw : wp_X12_holders_32 K4 Q v0 v1 v3 s0 s1 S) : Go p l e { frames := 2, cells := 0, slots := 0, locals := 47 } s m args below meth c z 4 (MQ below (Qx z (pI S Q)) args s 0 0 (own z)) (0) (0) 32 [(0, .ref (v0)), (1, .int (v1)), (3, .int (v3))] [.int (s0), .int (s1)] (S) := by
  refine G_ior (pc := 32) C dX12_holders_32 ?_
  refine G_topi (fun e4 he4 => ?_)
  have hw := hw e4 he4
  clear he4
  refine G_istore_n (pc := 33) C [(2, .int (e4)), (0, .ref (v0)), (1, .int (v1)), (3, .int (v3))] dX12_holders_33 rfl (by decide) rfl ?_
  obtain ⟨e5, he5⟩ : ∃ y : Int32, y = (v3 + 1) := ⟨_, rfl⟩
  have hw := hw e5 he5
  refine G_iinc (pc := 34) C [(3, .int (e5)), (2, .int (e4)), (0, .ref (v0)), (1, .int (v1))] 3 (v := e5) dX12_holders_34 rfl (by rw [he5]; rfl) (by decide) rfl ?_
  clear he5
  refine G_goto (pc := 37) C 4 dX12_holders_37 (by decide) ?_
  exact G_sub [2, 3, 1, 0] rfl (hK4 _ _ hw)
set_option maxHeartbeats 4000000 in
set_option maxRecDepth 100000 in
theorem gb_X12_holders_4 (C : Cx p s m args meth c z cX12_holders 4 RX12 (some .int) "holders") {K4 : Int32 → Int32 → Prop} {Q : Int32 → Prop} {v0 : Nat} {v1 : Int32} {v2 : Int32} {v3 : Int32} {S : Hp}  (hK4 : ∀ (w2 : Int32) (w3 : Int32), K4 w2 w3 → Go p l e { frames := 2, cells := 0, slots := 0, locals := 47 } s m args below meth c z 4 (MQ below (Qx z (pI S Q)) args s 0 0 (own z)) (0) (0) 4 [(0, .ref (v0)), (1, .int (v1)), (2, .int (w2)), (3, .int (w3))] [] (S)) (hw : wb_X12_holders_4  K4 Q v0 v1 v2 v3 S) : Go p l e { frames := 2, cells := 0, slots := 0, locals := 47 } s m args below meth c z 4 (MQ below (Qx z (pI S Q)) args s 0 0 (own z)) (0) (0) 4 [(0, .ref (v0)), (1, .int (v1)), (2, .int (v2)), (3, .int (v3))] [] (S) := by
  refine G_iload_n (pc := 4) C 3 dX12_holders_4 rfl rfl ?_
  refine G_aload_n (pc := 5) C 0 dX12_holders_5 rfl rfl ?_
  obtain ⟨hk, hw⟩ := hw
  refine gf_RX12_7 (pc := 6) C dX12_holders_6 hk ?_
  refine G_bipush (pc := 9) C (v := 94) dX12_holders_9 (by decide) ?_
  obtain ⟨b1, hq, hw⟩ := hw
  rw [hq]
  obtain ⟨hk, hi, hw⟩ := hw
  refine G_iald (pc := 11) C hk hi dX12_holders_11 ?_
  refine G_icmp_ge (pc := 12) C 40 dX12_holders_12 (by decide) (fun hc => ?_) (fun hc => ?_)
  · have hw := hw.1 hc
    refine G_iload_n (pc := 40) C 2 dX12_holders_40 rfl rfl ?_
    exact G_iret (pc := 41) C rfl dX12_holders_41 ⟨rfl, _, rfl, hw⟩
  · have hw := hw.2 hc
    refine G_iload_n (pc := 15) C 2 dX12_holders_15 rfl rfl ?_
    refine G_aload_n (pc := 16) C 0 dX12_holders_16 rfl rfl ?_
    refine G_iload_n (pc := 17) C 3 dX12_holders_17 rfl rfl ?_
    refine G_iload_n (pc := 18) C 1 dX12_holders_18 rfl rfl ?_
    obtain ⟨hk, hw⟩ := hw
    refine cl_RX12_145 (pc := 19) C (c_X12_hasNumber l z (v0) (v3) (v1) S _ hw) ⟨Nat.le_of_ble_eq_true rfl, Nat.le_of_ble_eq_true rfl⟩ hk dX12_holders_19 (Nat.le_of_ble_eq_true rfl) (fun v S' hp => ?_)
    clear hw
    obtain ⟨hS, e2, rfl, hw⟩ := hp
    subst S'
    refine G_if_eq (pc := 22) C 31 dX12_holders_22 (by decide) (fun hc => ?_) (fun hc => ?_)
    · have hw := hw.1 hc
      refine G_iconst (pc := 31) C (v := 0) dX12_holders_31 (by decide) ?_
      exact G_sub [0, 1, 3] rfl (g_X12_holders_32 C hK4 hw)
    · have hw := hw.2 hc
      refine G_iconst (pc := 25) C (v := 1) dX12_holders_25 (by decide) ?_
      refine G_iload_n (pc := 26) C 3 dX12_holders_26 rfl rfl ?_
      refine G_ishl (pc := 27) C dX12_holders_27 ?_
      refine G_goto (pc := 28) C 32 dX12_holders_28 (by decide) ?_
      exact G_sub [0, 1, 3] rfl (g_X12_holders_32 C hK4 hw)
set_option maxHeartbeats 4000000 in
set_option maxRecDepth 100000 in
theorem g_X12_holders_4 (C : Cx p s m args meth c z cX12_holders 4 RX12 (some .int) "holders")  {Q : Int32 → Prop} {v0 : Nat} {v1 : Int32} {v2 : Int32} {v3 : Int32} {S : Hp}   (hw : wp_X12_holders_4  Q v0 v1 v2 v3 S) : Go p l e { frames := 2, cells := 0, slots := 0, locals := 47 } s m args below meth c z 4 (MQ below (Qx z (pI S Q)) args s 0 0 (own z)) (0) (0) 4 [(0, .ref (v0)), (1, .int (v1)), (2, .int (v2)), (3, .int (v3))] [] (S) :=
  Lp_go (G := fun y : Int32 × Int32 => Go p l e { frames := 2, cells := 0, slots := 0, locals := 47 } s m args below meth c z 4 (MQ below (Qx z (pI S Q)) args s 0 0 (own z)) (0) (0) 4 [(0, .ref (v0)), (1, .int (v1)), (2, .int (y.1)), (3, .int (y.2))] [] (S)) (fun K y hK hB => gb_X12_holders_4 C  (fun w0 w1 h => hK (w0, w1) h) hB) hw
set_option maxHeartbeats 4000000 in
set_option maxRecDepth 100000 in
theorem c_X12_holders (l : Launch) (z : Zt) (a0 : Nat) (x1 : Int32) (S : Hp) (Q : Int32 → Prop) (hw : wp_X12_holders a0 x1 S Q) : Ct l z yX12_holders cX12_holders 4 (some .int) 2 47 0 0 [.ref (a0), .int (x1)] S (pI S Q) := by
  refine Ct_of (by decide) (Nat.le_of_ble_eq_true rfl) ?_
  intro p e s m args below meth c C
  have C : Cx p s m args meth c z cX12_holders 4 RX12 (some .int) "holders" := C
  refine G_sub (lv' := [(0, .ref (a0)), (1, .int (x1))]) [0, 1] rfl ?_
  refine G_iconst (pc := 0) C (v := 0) dX12_holders_0 (by decide) ?_
  refine G_istore_n (pc := 1) C [(2, .int ((0 : Int32))), (0, .ref (a0)), (1, .int (x1))] dX12_holders_1 rfl (by decide) rfl ?_
  refine G_iconst (pc := 2) C (v := 0) dX12_holders_2 (by decide) ?_
  refine G_istore_n (pc := 3) C [(3, .int ((0 : Int32))), (2, .int ((0 : Int32))), (0, .ref (a0)), (1, .int (x1))] dX12_holders_3 rfl (by decide) rfl ?_
  exact G_sub [2, 3, 1, 0] rfl (g_X12_holders_4 C  hw)
/-! FirstPartsModel.ones(I)I -/
abbrev wb_X12_ones_4  (K4 : Int32 → Int32 → Prop) (Q : Int32 → Prop) (v0 : Int32) (v1 : Int32) (v2 : Int32) (S : Hp) : Prop :=
  (((8 : Int32) ≤ v2 → Q v1) ∧ (¬ (8 : Int32) ≤ v2 → ∀ e1 : Int32, e1 = (v1 + ((v0 >>> (v2 &&& 31)) &&& (1 : Int32))) → ∀ e2 : Int32, e2 = (v2 + 1) → K4 (e1) (e2)))
abbrev wp_X12_ones_4  (Q : Int32 → Prop) (v0 : Int32) (v1 : Int32) (v2 : Int32) (S : Hp) : Prop :=
  Lp (X := Int32 × Int32) (fun K y => wb_X12_ones_4  (fun w0 w1 => K (w0, w1)) Q v0 y.1 y.2 S) (v1, v2)
abbrev wp_X12_ones (x0 : Int32) (S : Hp) (Q : Int32 → Prop) : Prop :=
  wp_X12_ones_4 Q (x0) ((0 : Int32)) ((0 : Int32)) (S)
set_option maxHeartbeats 4000000 in
set_option maxRecDepth 100000 in
theorem gb_X12_ones_4 (C : Cx p s m args meth c z cX12_ones 3 RX12 (some .int) "ones") {K4 : Int32 → Int32 → Prop} {Q : Int32 → Prop} {v0 : Int32} {v1 : Int32} {v2 : Int32} {S : Hp}  (hK4 : ∀ (w1 : Int32) (w2 : Int32), K4 w1 w2 → Go p l e { frames := 0, cells := 0, slots := 0, locals := 0 } s m args below meth c z 3 (MQ below (Qx z (pI S Q)) args s 0 0 (own z)) (0) (0) 4 [(0, .int (v0)), (1, .int (w1)), (2, .int (w2))] [] (S)) (hw : wb_X12_ones_4  K4 Q v0 v1 v2 S) : Go p l e { frames := 0, cells := 0, slots := 0, locals := 0 } s m args below meth c z 3 (MQ below (Qx z (pI S Q)) args s 0 0 (own z)) (0) (0) 4 [(0, .int (v0)), (1, .int (v1)), (2, .int (v2))] [] (S) := by
  refine G_iload_n (pc := 4) C 2 dX12_ones_4 rfl rfl ?_
  refine G_bipush (pc := 5) C (v := 8) dX12_ones_5 (by decide) ?_
  refine G_icmp_ge (pc := 7) C 24 dX12_ones_7 (by decide) (fun hc => ?_) (fun hc => ?_)
  · have hw := hw.1 hc
    refine G_iload_n (pc := 24) C 1 dX12_ones_24 rfl rfl ?_
    exact G_iret (pc := 25) C rfl dX12_ones_25 ⟨rfl, _, rfl, hw⟩
  · have hw := hw.2 hc
    refine G_iload_n (pc := 10) C 1 dX12_ones_10 rfl rfl ?_
    refine G_iload_n (pc := 11) C 0 dX12_ones_11 rfl rfl ?_
    refine G_iload_n (pc := 12) C 2 dX12_ones_12 rfl rfl ?_
    refine G_ishr (pc := 13) C dX12_ones_13 ?_
    refine G_iconst (pc := 14) C (v := 1) dX12_ones_14 (by decide) ?_
    refine G_iand (pc := 15) C dX12_ones_15 ?_
    refine G_iadd (pc := 16) C dX12_ones_16 ?_
    refine G_topi (fun e1 he1 => ?_)
    have hw := hw e1 he1
    clear he1
    refine G_istore_n (pc := 17) C [(1, .int (e1)), (0, .int (v0)), (2, .int (v2))] dX12_ones_17 rfl (by decide) rfl ?_
    obtain ⟨e2, he2⟩ : ∃ y : Int32, y = (v2 + 1) := ⟨_, rfl⟩
    have hw := hw e2 he2
    refine G_iinc (pc := 18) C [(2, .int (e2)), (1, .int (e1)), (0, .int (v0))] 2 (v := e2) dX12_ones_18 rfl (by rw [he2]; rfl) (by decide) rfl ?_
    clear he2
    refine G_goto (pc := 21) C 4 dX12_ones_21 (by decide) ?_
    exact G_sub [2, 1, 0] rfl (hK4 _ _ hw)
set_option maxHeartbeats 4000000 in
set_option maxRecDepth 100000 in
theorem g_X12_ones_4 (C : Cx p s m args meth c z cX12_ones 3 RX12 (some .int) "ones")  {Q : Int32 → Prop} {v0 : Int32} {v1 : Int32} {v2 : Int32} {S : Hp}   (hw : wp_X12_ones_4  Q v0 v1 v2 S) : Go p l e { frames := 0, cells := 0, slots := 0, locals := 0 } s m args below meth c z 3 (MQ below (Qx z (pI S Q)) args s 0 0 (own z)) (0) (0) 4 [(0, .int (v0)), (1, .int (v1)), (2, .int (v2))] [] (S) :=
  Lp_go (G := fun y : Int32 × Int32 => Go p l e { frames := 0, cells := 0, slots := 0, locals := 0 } s m args below meth c z 3 (MQ below (Qx z (pI S Q)) args s 0 0 (own z)) (0) (0) 4 [(0, .int (v0)), (1, .int (y.1)), (2, .int (y.2))] [] (S)) (fun K y hK hB => gb_X12_ones_4 C  (fun w0 w1 h => hK (w0, w1) h) hB) hw
set_option maxHeartbeats 4000000 in
set_option maxRecDepth 100000 in
theorem c_X12_ones (l : Launch) (z : Zt) (x0 : Int32) (S : Hp) (Q : Int32 → Prop) (hw : wp_X12_ones x0 S Q) : Ct l z yX12_ones cX12_ones 3 (some .int) 0 0 0 0 [.int (x0)] S (pI S Q) := by
  refine Ct_of (by decide) (Nat.le_of_ble_eq_true rfl) ?_
  intro p e s m args below meth c C
  have C : Cx p s m args meth c z cX12_ones 3 RX12 (some .int) "ones" := C
  refine G_sub (lv' := [(0, .int (x0))]) [0] rfl ?_
  refine G_iconst (pc := 0) C (v := 0) dX12_ones_0 (by decide) ?_
  refine G_istore_n (pc := 1) C [(1, .int ((0 : Int32))), (0, .int (x0))] dX12_ones_1 rfl (by decide) rfl ?_
  refine G_iconst (pc := 2) C (v := 0) dX12_ones_2 (by decide) ?_
  refine G_istore_n (pc := 3) C [(2, .int ((0 : Int32))), (1, .int ((0 : Int32))), (0, .int (x0))] dX12_ones_3 rfl (by decide) rfl ?_
  exact G_sub [2, 1, 0] rfl (g_X12_ones_4 C  hw)
/-! FirstPartsModel.over(I)I -/
abbrev wb_X12_over_2  (K2 : Int32 → Prop) (Q : Int32 → Prop) (v0 : Int32) (v1 : Int32) (S : Hp) : Prop :=
  ¬ (29 : Int32) = 0 ∧ ((((v0 * v1) - (v0 * v1) / (29 : Int32) * (29 : Int32)) = (1 : Int32) → Q v1) ∧ (¬ ((v0 * v1) - (v0 * v1) / (29 : Int32) * (29 : Int32)) = (1 : Int32) → ∀ e1 : Int32, e1 = (v1 + 1) → K2 (e1)))
abbrev wp_X12_over_2  (Q : Int32 → Prop) (v0 : Int32) (v1 : Int32) (S : Hp) : Prop :=
  Lp (X := Int32) (fun K y => wb_X12_over_2  (fun w0 => K (w0)) Q v0 y S) (v1)
abbrev wp_X12_over (x0 : Int32) (S : Hp) (Q : Int32 → Prop) : Prop :=
  wp_X12_over_2 Q (x0) ((1 : Int32)) (S)
set_option maxHeartbeats 4000000 in
set_option maxRecDepth 100000 in
theorem gb_X12_over_2 (C : Cx p s m args meth c z cX12_over 2 RX12 (some .int) "over") {K2 : Int32 → Prop} {Q : Int32 → Prop} {v0 : Int32} {v1 : Int32} {S : Hp}  (hK2 : ∀ (w1 : Int32), K2 w1 → Go p l e { frames := 0, cells := 0, slots := 0, locals := 0 } s m args below meth c z 2 (MQ below (Qx z (pI S Q)) args s 0 0 (own z)) (0) (0) 2 [(0, .int (v0)), (1, .int (w1))] [] (S)) (hw : wb_X12_over_2  K2 Q v0 v1 S) : Go p l e { frames := 0, cells := 0, slots := 0, locals := 0 } s m args below meth c z 2 (MQ below (Qx z (pI S Q)) args s 0 0 (own z)) (0) (0) 2 [(0, .int (v0)), (1, .int (v1))] [] (S) := by
  refine G_iload_n (pc := 2) C 0 dX12_over_2 rfl rfl ?_
  refine G_iload_n (pc := 3) C 1 dX12_over_3 rfl rfl ?_
  refine G_imul (pc := 4) C dX12_over_4 ?_
  refine G_bipush (pc := 5) C (v := 29) dX12_over_5 (by decide) ?_
  obtain ⟨h0, hw⟩ := hw
  refine G_irem (pc := 7) C dX12_over_7 h0 ?_
  refine G_iconst (pc := 8) C (v := 1) dX12_over_8 (by decide) ?_
  refine G_icmp_eq (pc := 9) C 18 dX12_over_9 (by decide) (fun hc => ?_) (fun hc => ?_)
  · have hw := hw.1 hc
    refine G_iload_n (pc := 18) C 1 dX12_over_18 rfl rfl ?_
    exact G_iret (pc := 19) C rfl dX12_over_19 ⟨rfl, _, rfl, hw⟩
  · have hw := hw.2 hc
    obtain ⟨e1, he1⟩ : ∃ y : Int32, y = (v1 + 1) := ⟨_, rfl⟩
    have hw := hw e1 he1
    refine G_iinc (pc := 12) C [(1, .int (e1)), (0, .int (v0))] 1 (v := e1) dX12_over_12 rfl (by rw [he1]; rfl) (by decide) rfl ?_
    clear he1
    refine G_goto (pc := 15) C 2 dX12_over_15 (by decide) ?_
    exact G_sub [1, 0] rfl (hK2 _ hw)
set_option maxHeartbeats 4000000 in
set_option maxRecDepth 100000 in
theorem g_X12_over_2 (C : Cx p s m args meth c z cX12_over 2 RX12 (some .int) "over")  {Q : Int32 → Prop} {v0 : Int32} {v1 : Int32} {S : Hp}   (hw : wp_X12_over_2  Q v0 v1 S) : Go p l e { frames := 0, cells := 0, slots := 0, locals := 0 } s m args below meth c z 2 (MQ below (Qx z (pI S Q)) args s 0 0 (own z)) (0) (0) 2 [(0, .int (v0)), (1, .int (v1))] [] (S) :=
  Lp_go (G := fun y : Int32 => Go p l e { frames := 0, cells := 0, slots := 0, locals := 0 } s m args below meth c z 2 (MQ below (Qx z (pI S Q)) args s 0 0 (own z)) (0) (0) 2 [(0, .int (v0)), (1, .int (y))] [] (S)) (fun K y hK hB => gb_X12_over_2 C  (fun w0 h => hK (w0) h) hB) hw
set_option maxHeartbeats 4000000 in
set_option maxRecDepth 100000 in
theorem c_X12_over (l : Launch) (z : Zt) (x0 : Int32) (S : Hp) (Q : Int32 → Prop) (hw : wp_X12_over x0 S Q) : Ct l z yX12_over cX12_over 2 (some .int) 0 0 0 0 [.int (x0)] S (pI S Q) := by
  refine Ct_of (by decide) (Nat.le_of_ble_eq_true rfl) ?_
  intro p e s m args below meth c C
  have C : Cx p s m args meth c z cX12_over 2 RX12 (some .int) "over" := C
  refine G_sub (lv' := [(0, .int (x0))]) [0] rfl ?_
  refine G_iconst (pc := 0) C (v := 1) dX12_over_0 (by decide) ?_
  refine G_istore_n (pc := 1) C [(1, .int ((1 : Int32))), (0, .int (x0))] dX12_over_1 rfl (by decide) rfl ?_
  exact G_sub [1, 0] rfl (g_X12_over_2 C  hw)
end W18model2leantxt
