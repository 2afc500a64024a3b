section HELP
variable {p : Program} {l : Launch} {e : Env} {R : Room} {s : State} {m : MethodId} {args : Array Value} {below : List Frame} {meth : Method} {c : Code} {z : Zt} {cc : ByteArray} {nL : Nat} {ow : String} {ret : Option FieldType} {nm : String} {Q : State → Prop} {bc bs pc : Nat} {lv : List (Nat × Value)} {st : List Value} {S : Hp}
/-! posts -/
def pI (S : Hp) (Q : Int32 → Prop) : Option Value → Hp → Prop := fun v S' => S' = S ∧ ∃ x : Int32, v = some (.int x) ∧ Q x
def pA (S : Hp) (Q : Nat → Prop) : Option Value → Hp → Prop := fun v S' => S' = S ∧ ∃ x : Nat, v = some (.ref x) ∧ Q x
def wI (Q : Int32 → Hp → Prop) : Option Value → Hp → Prop := fun v S' => ∃ x : Int32, v = some (.int x) ∧ Q x S'
def wA (Q : Nat → Hp → Prop) : Option Value → Hp → Prop := fun v S' => ∃ x : Nat, v = some (.ref x) ∧ Q x S'
def wV (Q : Hp → Prop) : Option Value → Hp → Prop := fun v S' => v = none ∧ Q S'
theorem G_topi {x : Int32} (k : ∀ y : Int32, y = x → Go p l e R s m args below meth c z nL Q bc bs pc lv (.int y :: st) S) : Go p l e R s m args below meth c z nL Q bc bs pc lv (.int x :: st) S := k x rfl
theorem G_nullQ (C : Cx p s m args meth c z cc nL ow ret nm) (hd : decode cc pc = .ok (.aconst_null, 1)) (k : Go p l e R s m args below meth c z nL Q bc bs (pc + 1) lv (va_rf none :: st) S) : Go p l e R s m args below meth c z nL Q bc bs pc lv st S := G_null C hd k
theorem w_oi : Cond.instanceMethod Lib.objectInit ∈ gt := gt_t 27 (by decide +kernel) rfl
theorem w_oc : Cond.code Lib.objectInit ⟨#[0xb1]⟩ 1 none ∈ gt := gt_t 28 (by decide +kernel) rfl
theorem w_aI : Cond.arrayClass .int ∈ gt := gt_t 45 (by decide +kernel) rfl
theorem G_objInit (C : Cx p s m args meth c z cc nL ow ret nm) {ix a : Nat} (w1 : Cond.methodLink ow ix Lib.objectInit ∈ gt) (h1 : 1 ≤ R.frames) (h2 : 20 ≤ R.locals) (hd : decode cc pc = .ok (.invokespecial ix, 3)) (k : Go p l e R s m args below meth c z nL Q bc bs (pc + 3) lv [] S) : Go p l e R s m args below meth c z nL Q bc bs pc lv [.ref a] S := fun H locs ls cells slots hl hP hS g1 g2 =>
  W.objInit C.1 C.2.1 C.2.2.2.1 (C.2.2.2.2.1 _ w1) (C.2.2.2.2.1 _ w_oi) (C.2.2.2.2.1 _ w_oc) rfl (by rw [C.2.2.1]; exact hl.1) rfl hd h1 (Nat.le_trans (Nat.add_le_add_right (lv_room (st := []) (by decide)) 12) h2) (k H locs ls cells slots hl hP hS g1 g2)
theorem ne_ti {x k : Int32} {n : Int} (h : ¬ x = k) (hk : k.toInt = n) : ¬ x.toInt = n := fun q => h (Int32.toInt_inj.mp (q.trans hk.symm))
theorem G_inv (C : Cx p s m args meth c z cc nL ow ret nm) {ix : Nat} (w1 : Cond.fieldLink ow ix "FirstParts$Curve" "INVERSE" "[I" ∈ gt) (hd : decode cc pc = .ok (.getstatic ix, 3)) (k : Go p l e R s m args below meth c z nL Q bc bs (pc + 3) lv (.ref (zI z) :: st) S) : Go p l e R s m args below meth c z nL Q bc bs pc lv st S := fun H locs ls cells slots hl hP hS g1 g2 =>
  va_gets C.1 C.2.1 C.2.2.2.2.2.1.2.2.2.1 hS C.2.2.2.1 (C.2.2.2.2.1 _ w1) (fun x h => h) hd (k H locs ls cells slots hl hP hS g1 g2)
theorem G_invld (C : Cx p s m args meth c z cc nL ow ret nm) {i : Int32} (hi : vp_in i 29) (hd : decode cc pc = .ok (.iaload, 1)) (k : Go p l e R s m args below meth c z nL Q bc bs (pc + 1) lv (.int (invT i.toNatClampNeg) :: st) S) : Go p l e R s m args below meth c z nL Q bc bs pc lv (.int i :: .ref (zI z) :: st) S := fun H locs ls cells slots hl hP hS g1 g2 =>
  va_ti C.1 C.2.1 C.2.2.2.2.2.1.2.2.2.2.1 hS hi rfl hd (k H locs ls cells slots hl hP hS g1 g2)
theorem in_X0 : ∀ w ∈ u_ws RX0 TX0 5, w ∈ gt := fun w hw => have h : (u_ws RX0 TX0 5).all (fun w => decide (w ∈ lw_tbl) && goodWord w) = true := by decide +kernel
  have h1 := List.all_eq_true.mp h w hw
  gt_of (of_decide_eq_true (Bool.and_eq_true_iff.mp h1).1) (Bool.and_eq_true_iff.mp h1).2
theorem in_X1 : ∀ w ∈ u_ws RX1 TX1 7, w ∈ gt := fun w hw => have h : (u_ws RX1 TX1 7).all (fun w => decide (w ∈ lw_tbl) && goodWord w) = true := by decide +kernel
  have h1 := List.all_eq_true.mp h w hw
  gt_of (of_decide_eq_true (Bool.and_eq_true_iff.mp h1).1) (Bool.and_eq_true_iff.mp h1).2
theorem in_X2 : ∀ w ∈ u_ws RX2 TX2 4, w ∈ gt := fun w hw => have h : (u_ws RX2 TX2 4).all (fun w => decide (w ∈ lw_tbl) && goodWord w) = true := by decide +kernel
  have h1 := List.all_eq_true.mp h w hw
  gt_of (of_decide_eq_true (Bool.and_eq_true_iff.mp h1).1) (Bool.and_eq_true_iff.mp h1).2
theorem in_X3 : ∀ w ∈ u_ws RX3 TX3 6, w ∈ gt := fun w hw => have h : (u_ws RX3 TX3 6).all (fun w => decide (w ∈ lw_tbl) && goodWord w) = true := by decide +kernel
  have h1 := List.all_eq_true.mp h w hw
  gt_of (of_decide_eq_true (Bool.and_eq_true_iff.mp h1).1) (Bool.and_eq_true_iff.mp h1).2
theorem in_X4 : ∀ w ∈ u_ws RX4 TX4 4, w ∈ gt := fun w hw => have h : (u_ws RX4 TX4 4).all (fun w => decide (w ∈ lw_tbl) && goodWord w) = true := by decide +kernel
  have h1 := List.all_eq_true.mp h w hw
  gt_of (of_decide_eq_true (Bool.and_eq_true_iff.mp h1).1) (Bool.and_eq_true_iff.mp h1).2
theorem in_X5 : ∀ w ∈ u_ws RX5 TX5 3, w ∈ gt := fun w hw => have h : (u_ws RX5 TX5 3).all (fun w => decide (w ∈ lw_tbl) && goodWord w) = true := by decide +kernel
  have h1 := List.all_eq_true.mp h w hw
  gt_of (of_decide_eq_true (Bool.and_eq_true_iff.mp h1).1) (Bool.and_eq_true_iff.mp h1).2
theorem in_X6 : ∀ w ∈ u_ws RX6 TX6 3, w ∈ gt := fun w hw => have h : (u_ws RX6 TX6 3).all (fun w => decide (w ∈ lw_tbl) && goodWord w) = true := by decide +kernel
  have h1 := List.all_eq_true.mp h w hw
  gt_of (of_decide_eq_true (Bool.and_eq_true_iff.mp h1).1) (Bool.and_eq_true_iff.mp h1).2
theorem in_X7 : ∀ w ∈ u_ws RX7 TX7 8, w ∈ gt := fun w hw => have h : (u_ws RX7 TX7 8).all (fun w => decide (w ∈ lw_tbl) && goodWord w) = true := by decide +kernel
  have h1 := List.all_eq_true.mp h w hw
  gt_of (of_decide_eq_true (Bool.and_eq_true_iff.mp h1).1) (Bool.and_eq_true_iff.mp h1).2
theorem in_X8 : ∀ w ∈ u_ws RX8 TX8 6, w ∈ gt := fun w hw => have h : (u_ws RX8 TX8 6).all (fun w => decide (w ∈ lw_tbl) && goodWord w) = true := by decide +kernel
  have h1 := List.all_eq_true.mp h w hw
  gt_of (of_decide_eq_true (Bool.and_eq_true_iff.mp h1).1) (Bool.and_eq_true_iff.mp h1).2
theorem in_X9 : ∀ w ∈ u_ws RX9 TX9 3, w ∈ gt := fun w hw => have h : (u_ws RX9 TX9 3).all (fun w => decide (w ∈ lw_tbl) && goodWord w) = true := by decide +kernel
  have h1 := List.all_eq_true.mp h w hw
  gt_of (of_decide_eq_true (Bool.and_eq_true_iff.mp h1).1) (Bool.and_eq_true_iff.mp h1).2
theorem in_X10 : ∀ w ∈ u_ws RX10 TX10 2, w ∈ gt := fun w hw => have h : (u_ws RX10 TX10 2).all (fun w => decide (w ∈ lw_tbl) && goodWord w) = true := by decide +kernel
  have h1 := List.all_eq_true.mp h w hw
  gt_of (of_decide_eq_true (Bool.and_eq_true_iff.mp h1).1) (Bool.and_eq_true_iff.mp h1).2
theorem in_X11 : ∀ w ∈ u_ws RX11 TX11 7, w ∈ gt := fun w hw => have h : (u_ws RX11 TX11 7).all (fun w => decide (w ∈ lw_tbl) && goodWord w) = true := by decide +kernel
  have h1 := List.all_eq_true.mp h w hw
  gt_of (of_decide_eq_true (Bool.and_eq_true_iff.mp h1).1) (Bool.and_eq_true_iff.mp h1).2
theorem in_X12 : ∀ w ∈ u_ws RX12 TX12 14, w ∈ gt := fun w hw => have h : (u_ws RX12 TX12 14).all (fun w => decide (w ∈ lw_tbl) && goodWord w) = true := by decide +kernel
  have h1 := List.all_eq_true.mp h w hw
  gt_of (of_decide_eq_true (Bool.and_eq_true_iff.mp h1).1) (Bool.and_eq_true_iff.mp h1).2
theorem Ct_ofF {y : MethodName} {f loc mc ms : Nat} {av : List Value} {post : Option Value → Hp → Prop} (hy : plainFor y = true) (hlen : (lg_sl av).length ≤ nL)
    (body : ∀ (p : Program) (e : Env) (s : State) (m : MethodId) (args : Array Value) (below : List Frame) (meth : Method) (c : Code), Cx p s m args meth c z cc nL y.cls ret y.name → Go p l e { frames := f, cells := mc, slots := ms, locals := loc } s m args below meth c z nL (MQ below (Qx z post) args s mc ms (own z)) mc ms 0 (lv_args 0 av) [] S) : Ct l z y cc nL ret f loc mc ms av S post := by
  refine va_MetF (cc := cc) (maxL := nL) (ret := ret) hy rfl ?_
  intro p e s m args below meth c s₁ B hml hv
  obtain ⟨rfl, hP, hE, hbz⟩ := hv
  have hts := atoms_spec (ws := mws y cc nL ret) B.pre
  have C : Cx p s m av.toArray meth c z cc nL y.cls ret y.name := ⟨B.exec, B.bytes, hml, findClass_of_methodNamed B.named, fun w hw => hts w (List.mem_cons_of_mem _ hw), hE, hbz, B.notSynchronized, B.returns, (name_of_methodNamed B.named B.method).1⟩
  have hl := lv_entry av (n := nL) hlen
  rw [lg_entry_eq]
  exact body p e s m av.toArray below meth c C s.heap [] _ 0 0 hl hP va_S.rf (Nat.le_of_eq (Nat.zero_add _)) (Nat.le_of_eq (Nat.zero_add _))
end HELP
