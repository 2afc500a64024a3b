section W10jdkleantxt
variable {p : Program} {l : Launch} {e : Env} {R : Room} {s : State} {m : MethodId} {args : Array Value} {below : List Frame} {meth : Method} {c : Code} {z : Zt} {cc : ByteArray} {nL : Nat} {ow : String} {ret : Option FieldType} {nm : String} {Q : State → Prop} {bc bs pc : Nat} {lv : List (Nat × Value)} {st : List Value} {S : Hp}
theorem kw_RJ6_265 : Cond.constant RJ6 265 1431655765 ∈ gt := gt_t 710 (by decide +kernel) rfl
theorem kw_RJ6_266 : Cond.constant RJ6 266 858993459 ∈ gt := gt_t 711 (by decide +kernel) rfl
theorem kw_RJ6_267 : Cond.constant RJ6 267 252645135 ∈ gt := gt_t 712 (by decide +kernel) rfl
/-! java/lang/Integer.bitCount(I)I -/
abbrev wp_J6_bitCount_0f7a4 (x0 : Int32) (S : Hp) (Q : Int32 → Prop) : Prop :=
  ∀ e1 : Int32, e1 = (x0 - (((x0).toUInt32 >>> (((1 : Int32)).toUInt32 &&& Int32.toUInt32 31)).toInt32 &&& (1431655765 : Int32))) → ∀ e2 : Int32, e2 = ((e1 &&& (858993459 : Int32)) + (((e1).toUInt32 >>> (((2 : Int32)).toUInt32 &&& Int32.toUInt32 31)).toInt32 &&& (858993459 : Int32))) → ∀ e3 : Int32, e3 = ((e2 + ((e2).toUInt32 >>> (((4 : Int32)).toUInt32 &&& Int32.toUInt32 31)).toInt32) &&& (252645135 : Int32)) → ∀ e4 : Int32, e4 = (e3 + ((e3).toUInt32 >>> (((8 : Int32)).toUInt32 &&& Int32.toUInt32 31)).toInt32) → ∀ e5 : Int32, e5 = (e4 + ((e4).toUInt32 >>> (((16 : Int32)).toUInt32 &&& Int32.toUInt32 31)).toInt32) → Q (e5 &&& (63 : Int32))
set_option maxHeartbeats 4000000 in
set_option maxRecDepth 100000 in
theorem c_J6_bitCount_0f7a4 (l : Launch) (z : Zt) (x0 : Int32) (S : Hp) (Q : Int32 → Prop) (hw : wp_J6_bitCount_0f7a4 x0 S Q) : Ct l z yJ6_bitCount_0f7a4 cJ6_bitCount_0f7a4 1 (some .int) 0 0 0 0 [.int (x0)] S (pI S Q) := by
  refine Ct_ofF (by decide +kernel) (Nat.le_of_ble_eq_true rfl) ?_
  intro p e s m args below meth c C
  have C : Cx p s m args meth c z cJ6_bitCount_0f7a4 1 RJ6 (some .int) "bitCount" := C
  refine G_sub (lv' := [(0, .int (x0))]) [0] rfl ?_
  refine G_iload_n (pc := 0) C 0 dJ6_bitCount_0f7a4_0 rfl rfl ?_
  refine G_iload_n (pc := 1) C 0 dJ6_bitCount_0f7a4_1 rfl rfl ?_
  refine G_iconst (pc := 2) C (v := 1) dJ6_bitCount_0f7a4_2 (by decide) ?_
  refine G_iushr (pc := 3) C dJ6_bitCount_0f7a4_3 ?_
  refine G_ldcw (pc := 4) C kw_RJ6_265 dJ6_bitCount_0f7a4_4 ?_
  refine G_iand (pc := 7) C dJ6_bitCount_0f7a4_7 ?_
  refine G_isub (pc := 8) C dJ6_bitCount_0f7a4_8 ?_
  refine G_topi (fun e1 he1 => ?_)
  have hw := hw e1 he1
  clear he1
  refine G_istore_n (pc := 9) C [(0, .int (e1))] dJ6_bitCount_0f7a4_9 rfl (by decide) rfl ?_
  refine G_iload_n (pc := 10) C 0 dJ6_bitCount_0f7a4_10 rfl rfl ?_
  refine G_ldcw (pc := 11) C kw_RJ6_266 dJ6_bitCount_0f7a4_11 ?_
  refine G_iand (pc := 14) C dJ6_bitCount_0f7a4_14 ?_
  refine G_iload_n (pc := 15) C 0 dJ6_bitCount_0f7a4_15 rfl rfl ?_
  refine G_iconst (pc := 16) C (v := 2) dJ6_bitCount_0f7a4_16 (by decide) ?_
  refine G_iushr (pc := 17) C dJ6_bitCount_0f7a4_17 ?_
  refine G_ldcw (pc := 18) C kw_RJ6_266 dJ6_bitCount_0f7a4_18 ?_
  refine G_iand (pc := 21) C dJ6_bitCount_0f7a4_21 ?_
  refine G_iadd (pc := 22) C dJ6_bitCount_0f7a4_22 ?_
  refine G_topi (fun e2 he2 => ?_)
  have hw := hw e2 he2
  clear he2
  refine G_istore_n (pc := 23) C [(0, .int (e2))] dJ6_bitCount_0f7a4_23 rfl (by decide) rfl ?_
  refine G_iload_n (pc := 24) C 0 dJ6_bitCount_0f7a4_24 rfl rfl ?_
  refine G_iload_n (pc := 25) C 0 dJ6_bitCount_0f7a4_25 rfl rfl ?_
  refine G_iconst (pc := 26) C (v := 4) dJ6_bitCount_0f7a4_26 (by decide) ?_
  refine G_iushr (pc := 27) C dJ6_bitCount_0f7a4_27 ?_
  refine G_iadd (pc := 28) C dJ6_bitCount_0f7a4_28 ?_
  refine G_ldcw (pc := 29) C kw_RJ6_267 dJ6_bitCount_0f7a4_29 ?_
  refine G_iand (pc := 32) C dJ6_bitCount_0f7a4_32 ?_
  refine G_topi (fun e3 he3 => ?_)
  have hw := hw e3 he3
  clear he3
  refine G_istore_n (pc := 33) C [(0, .int (e3))] dJ6_bitCount_0f7a4_33 rfl (by decide) rfl ?_
  refine G_iload_n (pc := 34) C 0 dJ6_bitCount_0f7a4_34 rfl rfl ?_
  refine G_iload_n (pc := 35) C 0 dJ6_bitCount_0f7a4_35 rfl rfl ?_
  refine G_bipush (pc := 36) C (v := 8) dJ6_bitCount_0f7a4_36 (by decide) ?_
  refine G_iushr (pc := 38) C dJ6_bitCount_0f7a4_38 ?_
  refine G_iadd (pc := 39) C dJ6_bitCount_0f7a4_39 ?_
  refine G_topi (fun e4 he4 => ?_)
  have hw := hw e4 he4
  clear he4
  refine G_istore_n (pc := 40) C [(0, .int (e4))] dJ6_bitCount_0f7a4_40 rfl (by decide) rfl ?_
  refine G_iload_n (pc := 41) C 0 dJ6_bitCount_0f7a4_41 rfl rfl ?_
  refine G_iload_n (pc := 42) C 0 dJ6_bitCount_0f7a4_42 rfl rfl ?_
  refine G_bipush (pc := 43) C (v := 16) dJ6_bitCount_0f7a4_43 (by decide) ?_
  refine G_iushr (pc := 45) C dJ6_bitCount_0f7a4_45 ?_
  refine G_iadd (pc := 46) C dJ6_bitCount_0f7a4_46 ?_
  refine G_topi (fun e5 he5 => ?_)
  have hw := hw e5 he5
  clear he5
  refine G_istore_n (pc := 47) C [(0, .int (e5))] dJ6_bitCount_0f7a4_47 rfl (by decide) rfl ?_
  refine G_iload_n (pc := 48) C 0 dJ6_bitCount_0f7a4_48 rfl rfl ?_
  refine G_bipush (pc := 49) C (v := 63) dJ6_bitCount_0f7a4_49 (by decide) ?_
  refine G_iand (pc := 51) C dJ6_bitCount_0f7a4_51 ?_
  exact G_iret (pc := 52) C rfl dJ6_bitCount_0f7a4_52 ⟨rfl, _, rfl, hw⟩
/-! java/lang/Math.floorMod(II)I -/
abbrev wp_J9_floorMod_7cf53_18  (Q : Int32 → Prop) (v2 : Int32) (S : Hp) : Prop :=
  Q v2
abbrev wp_J9_floorMod_7cf53 (x0 : Int32) (x1 : Int32) (S : Hp) (Q : Int32 → Prop) : Prop :=
  ¬ x1 = 0 ∧ ∀ e1 : Int32, e1 = (x0 - x0 / x1 * x1) → ((0 ≤ (x0 ^^^ x1) → wp_J9_floorMod_7cf53_18 Q (e1) (S)) ∧ (¬ 0 ≤ (x0 ^^^ x1) → ((e1 = 0 → wp_J9_floorMod_7cf53_18 Q (e1) (S)) ∧ (¬ e1 = 0 → Q (e1 + x1)))))
set_option maxHeartbeats 4000000 in
set_option maxRecDepth 100000 in
theorem g_J9_floorMod_7cf53_18 (C : Cx p s m args meth c z cJ9_floorMod_7cf53 3 RJ9 (some .int) "floorMod")  {Q : Int32 → Prop} {v2 : Int32} {S : Hp}   (hw : wp_J9_floorMod_7cf53_18  Q v2 S) : Go p l e { frames := 0, cells := 0, slots := 0, locals := 0 } s m args below meth c z 3 (MQ below (Qx z (pI S Q)) args s 0 0 (own z)) (0) (0) 18 [(2, .int (v2))] [] (S) := by
  refine G_iload_n (pc := 18) C 0 dJ9_floorMod_7cf53_18 rfl rfl ?_
  exact G_iret (pc := 19) C rfl dJ9_floorMod_7cf53_19 ⟨rfl, _, rfl, hw⟩
set_option maxHeartbeats 4000000 in
set_option maxRecDepth 100000 in
theorem c_J9_floorMod_7cf53 (l : Launch) (z : Zt) (x0 : Int32) (x1 : Int32) (S : Hp) (Q : Int32 → Prop) (hw : wp_J9_floorMod_7cf53 x0 x1 S Q) : Ct l z yJ9_floorMod_7cf53 cJ9_floorMod_7cf53 3 (some .int) 0 0 0 0 [.int (x0), .int (x1)] S (pI S Q) := by
  refine Ct_ofF (by decide +kernel) (Nat.le_of_ble_eq_true rfl) ?_
  intro p e s m args below meth c C
  have C : Cx p s m args meth c z cJ9_floorMod_7cf53 3 RJ9 (some .int) "floorMod" := C
  refine G_sub (lv' := [(0, .int (x0)), (1, .int (x1))]) [0, 1] rfl ?_
  refine G_iload_n (pc := 0) C 0 dJ9_floorMod_7cf53_0 rfl rfl ?_
  refine G_iload_n (pc := 1) C 1 dJ9_floorMod_7cf53_1 rfl rfl ?_
  obtain ⟨h0, hw⟩ := hw
  refine G_irem (pc := 2) C dJ9_floorMod_7cf53_2 h0 ?_
  refine G_topi (fun e1 he1 => ?_)
  have hw := hw e1 he1
  clear he1
  refine G_istore_n (pc := 3) C [(2, .int (e1)), (0, .int (x0)), (1, .int (x1))] dJ9_floorMod_7cf53_3 rfl (by decide) rfl ?_
  refine G_iload_n (pc := 4) C 1 dJ9_floorMod_7cf53_4 rfl rfl ?_
  refine G_iload_n (pc := 5) C 2 dJ9_floorMod_7cf53_5 rfl rfl ?_
  refine G_ixor (pc := 6) C dJ9_floorMod_7cf53_6 ?_
  refine G_if_ge (pc := 7) C 18 dJ9_floorMod_7cf53_7 (by decide) (fun hc => ?_) (fun hc => ?_)
  · have hw := hw.1 hc
    exact G_sub [0] rfl (g_J9_floorMod_7cf53_18 C  hw)
  · have hw := hw.2 hc
    refine G_iload_n (pc := 10) C 0 dJ9_floorMod_7cf53_10 rfl rfl ?_
    refine G_if_eq (pc := 11) C 18 dJ9_floorMod_7cf53_11 (by decide) (fun hc => ?_) (fun hc => ?_)
    · have hw := hw.1 hc
      exact G_sub [0] rfl (g_J9_floorMod_7cf53_18 C  hw)
    · have hw := hw.2 hc
      refine G_iload_n (pc := 14) C 0 dJ9_floorMod_7cf53_14 rfl rfl ?_
      refine G_iload_n (pc := 15) C 2 dJ9_floorMod_7cf53_15 rfl rfl ?_
      refine G_iadd (pc := 16) C dJ9_floorMod_7cf53_16 ?_
      exact G_iret (pc := 17) C rfl dJ9_floorMod_7cf53_17 ⟨rfl, _, rfl, hw⟩
/-! java/lang/Math.max(II)I -/
abbrev wp_J9_max_7cf53_10  (Q : Int32 → Prop) (s0 : Int32) (S : Hp) : Prop :=
  Q s0
abbrev wp_J9_max_7cf53 (x0 : Int32) (x1 : Int32) (S : Hp) (Q : Int32 → Prop) : Prop :=
  ((x0 < x1 → wp_J9_max_7cf53_10 Q (x1) (S)) ∧ (¬ x0 < x1 → wp_J9_max_7cf53_10 Q (x0) (S)))
set_option maxHeartbeats 4000000 in
set_option maxRecDepth 100000 in
theorem g_J9_max_7cf53_10 (C : Cx p s m args meth c z cJ9_max_7cf53 2 RJ9 (some .int) "max")  {Q : Int32 → Prop} {s0 : Int32} {S : Hp}   (hw : wp_J9_max_7cf53_10  Q s0 S) : Go p l e { frames := 0, cells := 0, slots := 0, locals := 0 } s m args below meth c z 2 (MQ below (Qx z (pI S Q)) args s 0 0 (own z)) (0) (0) 10 [] [.int (s0)] (S) := by
  exact G_iret (pc := 10) C rfl dJ9_max_7cf53_10 ⟨rfl, _, rfl, hw⟩
set_option maxHeartbeats 4000000 in
set_option maxRecDepth 100000 in
theorem c_J9_max_7cf53 (l : Launch) (z : Zt) (x0 : Int32) (x1 : Int32) (S : Hp) (Q : Int32 → Prop) (hw : wp_J9_max_7cf53 x0 x1 S Q) : Ct l z yJ9_max_7cf53 cJ9_max_7cf53 2 (some .int) 0 0 0 0 [.int (x0), .int (x1)] S (pI S Q) := by
  refine Ct_ofF (by decide +kernel) (Nat.le_of_ble_eq_true rfl) ?_
  intro p e s m args below meth c C
  have C : Cx p s m args meth c z cJ9_max_7cf53 2 RJ9 (some .int) "max" := C
  refine G_sub (lv' := [(0, .int (x0)), (1, .int (x1))]) [0, 1] rfl ?_
  refine G_iload_n (pc := 0) C 0 dJ9_max_7cf53_0 rfl rfl ?_
  refine G_iload_n (pc := 1) C 1 dJ9_max_7cf53_1 rfl rfl ?_
  refine G_icmp_lt (pc := 2) C 9 dJ9_max_7cf53_2 (by decide) (fun hc => ?_) (fun hc => ?_)
  · have hw := hw.1 hc
    refine G_iload_n (pc := 9) C 1 dJ9_max_7cf53_9 rfl rfl ?_
    exact G_sub [] rfl (g_J9_max_7cf53_10 C  hw)
  · have hw := hw.2 hc
    refine G_iload_n (pc := 5) C 0 dJ9_max_7cf53_5 rfl rfl ?_
    refine G_goto (pc := 6) C 10 dJ9_max_7cf53_6 (by decide) ?_
    exact G_sub [] rfl (g_J9_max_7cf53_10 C  hw)
/-! java/lang/Math.min(II)I -/
abbrev wp_J9_min_7cf53_10  (Q : Int32 → Prop) (s0 : Int32) (S : Hp) : Prop :=
  Q s0
abbrev wp_J9_min_7cf53 (x0 : Int32) (x1 : Int32) (S : Hp) (Q : Int32 → Prop) : Prop :=
  ((x1 < x0 → wp_J9_min_7cf53_10 Q (x1) (S)) ∧ (¬ x1 < x0 → wp_J9_min_7cf53_10 Q (x0) (S)))
set_option maxHeartbeats 4000000 in
set_option maxRecDepth 100000 in
theorem g_J9_min_7cf53_10 (C : Cx p s m args meth c z cJ9_min_7cf53 2 RJ9 (some .int) "min")  {Q : Int32 → Prop} {s0 : Int32} {S : Hp}   (hw : wp_J9_min_7cf53_10  Q s0 S) : Go p l e { frames := 0, cells := 0, slots := 0, locals := 0 } s m args below meth c z 2 (MQ below (Qx z (pI S Q)) args s 0 0 (own z)) (0) (0) 10 [] [.int (s0)] (S) := by
  exact G_iret (pc := 10) C rfl dJ9_min_7cf53_10 ⟨rfl, _, rfl, hw⟩
set_option maxHeartbeats 4000000 in
set_option maxRecDepth 100000 in
theorem c_J9_min_7cf53 (l : Launch) (z : Zt) (x0 : Int32) (x1 : Int32) (S : Hp) (Q : Int32 → Prop) (hw : wp_J9_min_7cf53 x0 x1 S Q) : Ct l z yJ9_min_7cf53 cJ9_min_7cf53 2 (some .int) 0 0 0 0 [.int (x0), .int (x1)] S (pI S Q) := by
  refine Ct_ofF (by decide +kernel) (Nat.le_of_ble_eq_true rfl) ?_
  intro p e s m args below meth c C
  have C : Cx p s m args meth c z cJ9_min_7cf53 2 RJ9 (some .int) "min" := C
  refine G_sub (lv' := [(0, .int (x0)), (1, .int (x1))]) [0, 1] rfl ?_
  refine G_iload_n (pc := 0) C 0 dJ9_min_7cf53_0 rfl rfl ?_
  refine G_iload_n (pc := 1) C 1 dJ9_min_7cf53_1 rfl rfl ?_
  refine G_icmp_gt (pc := 2) C 9 dJ9_min_7cf53_2 (by decide) (fun hc => ?_) (fun hc => ?_)
  · have hw := hw.1 hc
    refine G_iload_n (pc := 9) C 1 dJ9_min_7cf53_9 rfl rfl ?_
    exact G_sub [] rfl (g_J9_min_7cf53_10 C  hw)
  · have hw := hw.2 hc
    refine G_iload_n (pc := 5) C 0 dJ9_min_7cf53_5 rfl rfl ?_
    refine G_goto (pc := 6) C 10 dJ9_min_7cf53_6 (by decide) ?_
    exact G_sub [] rfl (g_J9_min_7cf53_10 C  hw)
end W10jdkleantxt
