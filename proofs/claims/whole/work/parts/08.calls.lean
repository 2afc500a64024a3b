section CALLS
variable {p : Program} {l : Launch} {e : Env} {R : Room} {s : State} {m : MethodId} {args : Array Value} {below : List Frame} {meth : Method} {c : Code} {z : Zt} {cc : ByteArray} {nL : Nat} {ow : String} {ret : Option FieldType} {nm : String} {Q : State → Prop} {bc bs pc : Nat} {lv : List (Nat × Value)} {st : List Value} {S : Hp}
variable {y : MethodName} {cd : ByteArray} {n2 : Nat} {rt : Option FieldType} {f loc mc ms a ix np : Nat} {As rest st0 : List Value} {post : Option Value → Hp → Prop}
theorem G_run {av : Array Value} (hrun : ∀ (H : Heap) (locs : List Loc) (ls : Array Slot) (cells slots : Nat), lv_has ls nL lv → Pic z S H → va_S (own z) s.heap H locs → cells + mc ≤ R.cells ∧ slots + ms ≤ R.slots → va_Run p l e R s m args below meth c H locs cells slots mc ms (F0 m pc ls st0) rest (Qx z post av) (own z))
    (k : ∀ (v : Option Value) (S' : Hp), post v S' → Go p l e R s m args below meth c z nL Q bc bs (pc + 3) lv (v.toList ++ rest) S') : Go p l e R s m args below meth c z nL Q (bc + mc) (bs + ms) pc lv st0 S := fun H locs ls cells slots hl hP hS h1 h2 => by
  have hr := hrun H locs ls cells slots hl hP hS ⟨by omega, by omega⟩
  intro T hT X
  obtain ⟨v, st₀, t, T', L, h0, X', hL, e1, e2, ⟨v', S', hv, hp, hP1, hF⟩, st⟩ := hr T hT X
  cases hv
  have hF1 := hF.1
  have hF2 := hF.2
  rw [h0] at hF1 hF2
  obtain ⟨t2, a1, b1⟩ := k v S' hp T'.heap (locs ++ L) ls (cells + mc) (slots + ms) hl (by rw [e1]; exact hP1)
    ⟨by rw [e1]; exact Nat.le_trans hS.1 hF1, fun q g1 g2 => by rw [e1, hF2 q (Nat.lt_of_lt_of_le g1 hS.1) g2]; exact hS.2.1 q g1 g2, fun q hq => by
      rcases List.mem_append.mp hq with h | h
      · exact hS.2.2 q h
      · exact hL q h⟩ (by omega) (by omega) T' rfl X'
  exact ⟨t2, st t2 a1, b1⟩
def dsc (y : MethodName) (n : Nat) : Prop := y.cls ≠ "java/lang/invoke/MethodHandle" ∧ y.cls ≠ "java/lang/invoke/VarHandle" ∧ (parseMethodDescriptor y.desc).map (fun d => d.parameters.length) = some n
theorem pc_blind {av : List Value} : FrameBlind (va_Pc av (fun U => Pic z S U.heap ∧ Ev z U U.heap ∧ zb z ≤ U.heap.size)) := fun a U g mk q => ⟨q.1, q.2.1, q.2.2.1.same (U := U.calling g mk a) rfl, q.2.2.2⟩
theorem pc_at (C : Cx p s m args meth c z cc nL ow ret nm) {H : Heap} {locs : List Loc} (hP : Pic z S H) (hS : va_S (own z) s.heap H locs) (av : List Value) : ∀ U : State, U.heap = H → s.WarmedH U.vm → va_Pc av (fun U => Pic z S U.heap ∧ Ev z U U.heap ∧ zb z ≤ U.heap.size) av.toArray U := fun U hU hW => ⟨rfl, by rw [hU]; exact hP, C.2.2.2.2.2.1.warm hW (fun q g1 g2 => by rw [hU]; exact hS.2.1 q g1 g2), by rw [hU]; exact Nat.le_trans C.2.2.2.2.2.2.1 hS.1⟩
theorem G_callV (C : Cx p s m args meth c z cc nL ow ret nm) (ci N : Nat) {T : u_T} (hc : vwCl[ci]? = some (y.cls, T, N)) (hN : nFl[ci]? = some N) (w1 : Cond.methodLink ow ix y ∈ gt) (w2 : Cond.instanceMethod y ∈ gt) (w3 : Cond.selects y.cls y y ∈ gt) (w4 : Cond.initialized y.cls ∈ gt) (w5 : Cond.code y cd n2 rt ∈ gt) (hy : dsc y np) (hm : Ct l z y cd n2 rt f loc mc ms (.ref a :: As) S post) (hnp : As.length = np) (hR : f + 1 ≤ R.frames ∧ 8 + (n2 + 11) + loc ≤ R.locals) (hkd : kd S a = ci + 1) (hst : st0 = As.reverse ++ .ref a :: rest) (hW : (rest.map fun v => v.category).sum ≤ 8) (hd : decode cc pc = .ok (.invokevirtual ix, 3))
    (k : ∀ (v : Option Value) (S' : Hp), post v S' → Go p l e R s m args below meth c z nL Q bc bs (pc + 3) lv (v.toList ++ rest) S') : Go p l e R s m args below meth c z nL Q (bc + mc) (bs + ms) pc lv st0 S := by
  refine G_run (av := (Value.ref a :: As).toArray) (fun H locs ls cells slots hl hP hS hf => ?_) k
  obtain ⟨cell, q1, q2, q3, -⟩ := pic_obj hP hkd hN
  refine va_runV (Ts := gt) (C := y.cls) (As := As) ⟨C.1, C.2.1, C.2.2.1, C.2.2.2.1, C.2.2.2.2.1⟩ hm (cwV np C.2.2.2.2.1 (gt_in fun w hw => ?_) rfl rfl rfl ⟨rfl, hy⟩ hR) ⟨pc_blind, ⟨cell, q1, by rw [q3]; rfl, by rw [q2]; exact (C.2.2.2.2.2.1.1.1 ci _ hc).2.1⟩, pc_at C hP hS (.ref a :: As)⟩ rfl hnp hl.1 hst (lv_room hW) hd hf
  rcases List.mem_append.mp hw with h | h
  · simp only [List.mem_cons, List.not_mem_nil, or_false] at h
    rcases h with rfl | rfl | rfl | rfl
    · exact w1
    · exact w2
    · exact w3
    · exact w4
  · exact (mws_in w5 w h).1
theorem G_callS (C : Cx p s m args meth c z cc nL ow ret nm) (w1 : Cond.methodLink ow ix y ∈ gt) (w2 : Cond.static y ∈ gt) (w4 : Cond.initialized y.cls ∈ gt) (w5 : Cond.code y cd n2 rt ∈ gt) (hy : dsc y np) (hm : Ct l z y cd n2 rt f loc mc ms As S post) (hnp : As.length = np) (hR : f + 1 ≤ R.frames ∧ 8 + (n2 + 11) + loc ≤ R.locals) (hst : st0 = As.reverse ++ rest) (hW : (rest.map fun v => v.category).sum ≤ 8) (hd : decode cc pc = .ok (.invokestatic ix, 3))
    (k : ∀ (v : Option Value) (S' : Hp), post v S' → Go p l e R s m args below meth c z nL Q bc bs (pc + 3) lv (v.toList ++ rest) S') : Go p l e R s m args below meth c z nL Q (bc + mc) (bs + ms) pc lv st0 S := by
  refine G_run (av := As.toArray) (fun H locs ls cells slots hl hP hS hf => ?_) k
  refine va_runS (Ts := gt) (As := As) ⟨C.1, C.2.1, C.2.2.1, C.2.2.2.1, C.2.2.2.2.1⟩ hm (va_cwS np C.2.2.2.2.1 (gt_in fun w hw => ?_) rfl rfl rfl hy hR) ⟨pc_blind, pc_at C hP hS As⟩ rfl hnp hl.1 hst (lv_room hW) hd hf
  rcases List.mem_append.mp hw with h | h
  · simp only [List.mem_cons, List.not_mem_nil, or_false] at h
    rcases h with rfl | rfl | rfl
    · exact w1
    · exact w2
    · exact w4
  · exact (mws_in w5 w h).1
theorem G_callN (C : Cx p s m args meth c z cc nL ow ret nm) (w1 : (ow, ix, y) ∈ nestL) (w2 : Cond.static y ∈ gt) (w4 : Cond.initialized y.cls ∈ gt) (w5 : Cond.code y cd n2 rt ∈ gt) (hy : dsc y np) (hm : Ct l z y cd n2 rt f loc mc ms As S post) (hnp : As.length = np) (hR : f + 1 ≤ R.frames ∧ 8 + (n2 + 11) + loc ≤ R.locals) (hst : st0 = As.reverse ++ rest) (hW : (rest.map fun v => v.category).sum ≤ 8) (hd : decode cc pc = .ok (.invokestatic ix, 3))
    (k : ∀ (v : Option Value) (S' : Hp), post v S' → Go p l e R s m args below meth c z nL Q bc bs (pc + 3) lv (v.toList ++ rest) S') : Go p l e R s m args below meth c z nL Q (bc + mc) (bs + ms) pc lv st0 S := by
  refine G_run (av := As.toArray) (fun H locs ls cells slots hl hP hS hf => ?_) k
  exact va_runSN (Ts := gt) (As := As) ⟨C.1, C.2.1, C.2.2.1, C.2.2.2.1, C.2.2.2.2.1⟩ hm ⟨va_cnB (host := "FirstParts") np C.2.2.2.2.1 (mws_in w5) rfl rfl rfl (C.2.2.2.2.2.1.2.1 _ w1) (C.2.2.2.2.1 _ w4) hy hR, C.2.2.2.2.1 _ w2, trivial⟩ ⟨pc_blind, pc_at C hP hS As⟩ rfl hnp hl.1 hst (lv_room hW) hd hf
theorem G_callI (C : Cx p s m args meth c z cc nL ow ret nm) (hin : y.name = "<init>") (w1 : Cond.methodLink ow ix y ∈ gt) (w2 : Cond.instanceMethod y ∈ gt) (w4 : Cond.initialized y.cls ∈ gt) (w5 : Cond.code y cd n2 none ∈ gt) (hy : dsc y np) (hm : Ct l z y cd n2 none f loc mc ms (.ref a :: As) S post) (hnp : As.length = np) (hR : f + 1 ≤ R.frames ∧ 8 + (n2 + 11) + loc ≤ R.locals) (hst : st0 = As.reverse ++ .ref a :: rest) (hW : (rest.map fun v => v.category).sum ≤ 8) (hd : decode cc pc = .ok (.invokespecial ix, 3))
    (k : ∀ (v : Option Value) (S' : Hp), post v S' → Go p l e R s m args below meth c z nL Q bc bs (pc + 3) lv (v.toList ++ rest) S') : Go p l e R s m args below meth c z nL Q (bc + mc) (bs + ms) pc lv st0 S := by
  refine G_run (av := (Value.ref a :: As).toArray) (fun H locs ls cells slots hl hP hS hf => ?_) k
  exact va_runI (Ts := gt) (As := As) ⟨C.1, C.2.1, C.2.2.1, C.2.2.2.1, C.2.2.2.2.1⟩ hm (cwI np C.2.2.2.2.1 (mws_in w5) rfl rfl rfl (C.2.2.2.2.1 _ w4) (C.2.2.2.2.1 _ w1) (C.2.2.2.2.1 _ w2) hin hy hR) ⟨pc_blind, pc_at C hP hS (.ref a :: As)⟩ rfl hnp hl.1 hst (lv_room hW) hd hf
theorem G_callIN (C : Cx p s m args meth c z cc nL ow ret nm) (hin : y.name = "<init>") (w1 : (ow, ix, y) ∈ nestL) (w2 : Cond.instanceMethod y ∈ gt) (w4 : Cond.initialized y.cls ∈ gt) (w5 : Cond.code y cd n2 none ∈ gt) (hy : dsc y np) (hm : Ct l z y cd n2 none f loc mc ms (.ref a :: As) S post) (hnp : As.length = np) (hR : f + 1 ≤ R.frames ∧ 8 + (n2 + 11) + loc ≤ R.locals) (hst : st0 = As.reverse ++ .ref a :: rest) (hW : (rest.map fun v => v.category).sum ≤ 8) (hd : decode cc pc = .ok (.invokespecial ix, 3))
    (k : ∀ (v : Option Value) (S' : Hp), post v S' → Go p l e R s m args below meth c z nL Q bc bs (pc + 3) lv (v.toList ++ rest) S') : Go p l e R s m args below meth c z nL Q (bc + mc) (bs + ms) pc lv st0 S := by
  refine G_run (av := (Value.ref a :: As).toArray) (fun H locs ls cells slots hl hP hS hf => ?_) k
  exact va_runIN (Ts := gt) (As := As) ⟨C.1, C.2.1, C.2.2.1, C.2.2.2.1, C.2.2.2.2.1⟩ hm ⟨va_cnB (host := "FirstParts") np C.2.2.2.2.1 (mws_in w5) rfl rfl rfl (C.2.2.2.2.2.1.2.1 _ w1) (C.2.2.2.2.1 _ w4) hy hR, hin, C.2.2.2.2.1 _ w2⟩ ⟨pc_blind, pc_at C hP hS (.ref a :: As)⟩ rfl hnp hl.1 hst (lv_room hW) hd hf
/-! loops: what is left is well founded by a measure -/
def Lp {X : Type} (B : (X → Prop) → X → Prop) (x : X) : Prop := ∃ (I : X → Prop) (μ : X → Nat), I x ∧ ∀ y, I y → B (fun w => I w ∧ μ w < μ y) y
theorem Lp_go {X : Type} {B : (X → Prop) → X → Prop} {G : X → Prop} (hs : ∀ (K : X → Prop) (y : X), (∀ w, K w → G w) → B K y → G y) {x : X} (h : Lp B x) : G x := by
  obtain ⟨I, μ, hx, hI⟩ := h
  have key : ∀ n y, μ y < n → I y → G y := by
    intro n
    induction n with
    | zero => intro y hy; omega
    | succ n ih => intro y hy hIy; exact hs _ y (fun w hw => ih w (by omega) hw.1) (hI y hIy)
  exact key _ x (Nat.lt_succ_self _) hx
end CALLS
