/-! ===== the start: what the tables and the Statement give ===== -/
theorem st_t {w : Cond} (i : Nat) (h : tables_1[i]? = some w) : w ∈ lw_tbl := List.mem_append_right _ (List.mem_of_getElem? h)
section START
variable {s : State} {args : Array Value}
theorem st_arrI {ty : FieldType} (h : (Cond.arrayClass ty).before args s = true) : ∃ c : ClassId, ArrOfT s c ty ∧ s.vm.findClass ("[" ++ ty.toString) = some c := by
  obtain ⟨c, k, comp, h1, h2, h3⟩ := Cond.arrayClass_spec h
  exact ⟨c, fun n z => ⟨(fun q hq => by cases hq), k, h2, comp, h3⟩, h1⟩
theorem st_arrO {C : String} (h : (Cond.arrayOver (.object C)).before args s = true) : ∃ c : ClassId, ArrOfT s c (.object C) ∧ va_RA s c (.object C) := by
  obtain ⟨comp, c, k, h1, -, h3, h4, h5⟩ := Cond.arrayOver_spec h
  exact ⟨c, fun n z => ⟨(fun q hq => by cases hq), k, h3, comp, h4⟩, k, comp, h3, h4, h1, h5⟩
theorem st_arrA (h : (Cond.arrayOver (.array .int)).before args s = true) : ∃ c : ClassId, ArrOfT s c (.array .int) ∧ va_RA s c (.array .int) := by
  obtain ⟨comp, c, k, h1, h3, h4, h5⟩ := Cond.arrayOver_specA h
  exact ⟨c, fun n z => ⟨(fun q hq => by cases hq), k, h3, comp, h4⟩, h5⟩
theorem st_kn (hts : ∀ w ∈ lw_tbl, w.before args s = true) : ∀ (c : Nat) (q : vw_C), vwCl[c]? = some q → ∃ (cC : ClassId) (iS : Nat → Nat), u_Kn s q.1 q.2.1 q.2.2 cC iS := by
  intro c q hq
  have hg : ∀ w ∈ gt, w.before args s = true := fun w hw => hts w (List.mem_filter.mp hw).1
  match c, hq with
  | 0, hq => cases hq; exact u_known (C := RX0) (T := TX0) (N := 5) (n := 5) hg in_X0 (hts (.instantiable RX0 5) (st_t 54 (by decide +kernel)))
  | 1, hq => cases hq; exact u_known (C := RX1) (T := TX1) (N := 7) (n := 7) hg in_X1 (hts (.instantiable RX1 7) (st_t 182 (by decide +kernel)))
  | 2, hq => cases hq; exact u_known (C := RX2) (T := TX2) (N := 4) (n := 4) hg in_X2 (hts (.instantiable RX2 4) (st_t 108 (by decide +kernel)))
  | 3, hq => cases hq; exact u_known (C := RX3) (T := TX3) (N := 6) (n := 6) hg in_X3 (hts (.instantiable RX3 6) (st_t 211 (by decide +kernel)))
  | 4, hq => cases hq; exact u_known (C := RX4) (T := TX4) (N := 4) (n := 4) hg in_X4 (hts (.instantiable RX4 4) (st_t 236 (by decide +kernel)))
  | 5, hq => cases hq; exact u_known (C := RX5) (T := TX5) (N := 3) (n := 3) hg in_X5 (hts (.instantiable RX5 3) (st_t 115 (by decide +kernel)))
  | 6, hq => cases hq; exact u_known (C := RX6) (T := TX6) (N := 3) (n := 3) hg in_X6 (hts (.instantiable RX6 3) (st_t 162 (by decide +kernel)))
  | 7, hq => cases hq; exact u_known (C := RX7) (T := TX7) (N := 8) (n := 8) hg in_X7 (hts (.instantiable RX7 8) (st_t 47 (by decide +kernel)))
  | 8, hq => cases hq; exact u_known (C := RX8) (T := TX8) (N := 6) (n := 6) hg in_X8 (hts (.instantiable RX8 6) (st_t 314 (by decide +kernel)))
  | 9, hq => cases hq; exact u_known (C := RX9) (T := TX9) (N := 3) (n := 3) hg in_X9 (hts (.instantiable RX9 3) (st_t 307 (by decide +kernel)))
  | 10, hq => cases hq; exact u_known (C := RX10) (T := TX10) (N := 2) (n := 2) hg in_X10 (hts (.instantiable RX10 2) (st_t 30 (by decide +kernel)))
  | 11, hq => cases hq; exact u_known (C := RX11) (T := TX11) (N := 7) (n := 7) hg in_X11 (hts (.instantiable RX11 7) (st_t 22 (by decide +kernel)))
  | 12, hq => cases hq; exact u_known (C := RX12) (T := TX12) (N := 14) (n := 14) hg in_X12 (hts (.instantiable RX12 14) (st_t 823 (by decide +kernel)))
  | c + 13, hq => simp [vwCl] at hq
theorem st_D (hts : ∀ w ∈ lw_tbl, w.before args s = true) : ∃ D : va_G, ∀ (c : Nat) (q : vw_C), vwCl[c]? = some q → u_Kn s q.1 q.2.1 q.2.2 (D.1 c) (D.2 c) := by
  have h : ∀ c : Nat, ∃ d : ClassId × (Nat → Nat), ∀ q, vwCl[c]? = some q → u_Kn s q.1 q.2.1 q.2.2 d.1 d.2 := by
    intro c
    cases hc : vwCl[c]? with
    | none => exact ⟨(0, fun _ => 0), fun q hq => by cases hq⟩
    | some q =>
      obtain ⟨cC, iS, hk⟩ := st_kn hts c q hc
      exact ⟨(cC, iS), fun q' hq' => by cases hq'; exact hk⟩
  exact ⟨(fun c => (Classical.choose (h c)).1, fun c => (Classical.choose (h c)).2), fun c q hq => Classical.choose_spec (h c) q hq⟩
def st_tm (i : Nat) : Term := .string "FirstParts$Reader" ((txL.getD i (0, "")).1)
set_option maxRecDepth 100000 in
set_option maxHeartbeats 4000000 in
theorem st_mem1 : ∀ j, j < 29 → Cond.eq (.elem (.static "FirstParts$Curve" "INVERSE" "[I") (.int (Int32.ofNat j))) (.int (invT j)) ∈ flatC (Jvm.Cond.and given_1 narrow_1) := by decide +kernel
set_option maxRecDepth 100000 in
set_option maxHeartbeats 4000000 in
theorem st_mem2 : ∀ i, i < 4 → (Cond.exactly (st_tm i) "java/lang/String" ∈ flatC (Jvm.Cond.and given_1 narrow_1) ∧ Cond.eq (.field (st_tm i) "java/lang/String" "coder" "B") (.int 0) ∈ flatC (Jvm.Cond.and given_1 narrow_1) ∧ Cond.arrayOf (.field (st_tm i) "java/lang/String" "value" "[B") .byte ∈ flatC (Jvm.Cond.and given_1 narrow_1) ∧ Cond.eq (.length (.field (st_tm i) "java/lang/String" "value" "[B")) (.int (Int32.ofNat (txN.getD i 0))) ∈ flatC (Jvm.Cond.and given_1 narrow_1)) := by decide +kernel
set_option maxRecDepth 100000 in
set_option maxHeartbeats 4000000 in
theorem st_mem3 : ∀ i, i < 4 → ∀ j, j < txN.getD i 0 → Cond.eq (.elem (.field (st_tm i) "java/lang/String" "value" "[B") (.int (Int32.ofNat j))) (.int ((txB.getD i []).getD j 0)) ∈ flatC (Jvm.Cond.and given_1 narrow_1) := by decide +kernel
set_option maxRecDepth 100000 in
set_option maxHeartbeats 4000000 in
theorem st_mem4 : ∀ i, i < 4 → ∀ j, j < 4 → i ≠ j → (Cond.not (Cond.eq (st_tm i) (st_tm j)) ∈ flatC (Jvm.Cond.and given_1 narrow_1) ∨ Cond.not (Cond.eq (st_tm j) (st_tm i)) ∈ flatC (Jvm.Cond.and given_1 narrow_1)) := by decide +kernel
set_option maxRecDepth 100000 in
set_option maxHeartbeats 4000000 in
theorem st_mem5 : Cond.eq (.static "java/lang/String" "COMPACT_STRINGS" "Z") (.int 1) ∈ flatC (Jvm.Cond.and given_1 narrow_1) ∧ Cond.isRef (.static "jdk/internal/util/Preconditions" "SIOOBE_FORMATTER" "Ljava/util/function/BiFunction;") ∈ flatC (Jvm.Cond.and given_1 narrow_1) ∧ Cond.arrayOf (.static "FirstParts$Curve" "INVERSE" "[I") .int ∈ flatC (Jvm.Cond.and given_1 narrow_1) ∧ Cond.eq (.length (.static "FirstParts$Curve" "INVERSE" "[I")) (.int 29) ∈ flatC (Jvm.Cond.and given_1 narrow_1) := by decide +kernel
theorem st_nest : ∀ q ∈ nestL, Cond.methodLinkNest q.1 q.2.1 q.2.2 "FirstParts" ∈ lw_tbl := by decide +kernel
theorem st_ao : ∀ C ∈ aoL, Cond.arrayOver (.object C) ∈ lw_tbl := by decide +kernel
theorem st_tx : ∀ i, i < 4 → Cond.stringRef "FirstParts$Reader" ((txL.getD i (0, "")).1) ((txL.getD i (0, "")).2) ∈ lw_tbl := by decide +kernel
theorem st_ev (hts : ∀ w ∈ lw_tbl, w.before args s = true) (hgv : (Jvm.Cond.and given_1 narrow_1).before args s = true) : ∃ z : Zt, zb z = s.heap.size ∧ Ev z s s.heap := by
  have hf := flat_of_before _ hgv
  obtain ⟨D, hD⟩ := st_D hts
  have hA : ∀ a : Nat, a < s.heap.size → ¬ (fun q : Nat => s.heap.size ≤ q) a := fun a h q => Nat.not_le.mpr h q
  obtain ⟨c0, h0, n0⟩ := st_arrI (ty := .int) (hts _ (st_t 45 (by decide +kernel)))
  obtain ⟨c1, h1, n1⟩ := st_arrO (C := "FirstParts$Clause") (hts _ (st_t 53 (by decide +kernel)))
  obtain ⟨c2, h2, n2⟩ := st_arrO (C := "FirstParts$Packet") (hts _ (st_t 235 (by decide +kernel)))
  obtain ⟨c3, h3, n3⟩ := st_arrO (C := "FirstParts$Part") (hts _ (st_t 114 (by decide +kernel)))
  obtain ⟨c4, h4, n4⟩ := st_arrO (C := "FirstParts$Step") (hts _ (st_t 313 (by decide +kernel)))
  obtain ⟨c5, h5, n5⟩ := st_arrA (hts _ (st_t 168 (by decide +kernel)))
  obtain ⟨tI, eI, hT⟩ := va_Tof (tm := .static "FirstParts$Curve" "INVERSE" "[I") (N := 29) (f := fun j => .int (invT j)) (A := fun q : Nat => s.heap.size ≤ q) (by decide) (hf _ st_mem5.2.2.1) (va_eqt (hf _ st_mem5.2.2.2)) (fun j hj => va_eqt (hf _ (st_mem1 j hj))) hA
  obtain ⟨adK, adV, hS, hK⟩ := vk_Sof (N := 4) (tm := st_tm) (len := txN) (byt := txB) (A := fun q : Nat => s.heap.size ≤ q) (fun i hi => tx_lt hi) (fun i hi => hf _ (st_mem2 i hi).1) (fun i hi => hf _ (st_mem2 i hi).2.1) (fun i hi => hf _ (st_mem2 i hi).2.2.1) (fun i hi => hf _ (st_mem2 i hi).2.2.2) (fun i hi j hj => hf _ (st_mem3 i hi j hj)) (fun i j hi hj hij => (st_mem4 i hi j hj hij).imp (hf _) (hf _)) hA
  have hZi : va_Z "FirstParts$Curve" "INVERSE" "[I" (.ref tI) (fun q : Nat => s.heap.size ≤ q) s s.heap := va_Zof (hts _ (st_t 684 (by decide +kernel))) (hts _ (st_t 8 (by decide +kernel))) eI hA
  have hZc : va_Z "java/lang/String" "COMPACT_STRINGS" "Z" (.int 1) (fun q : Nat => s.heap.size ≤ q) s s.heap := va_Zof (hts _ (st_t 428 (by decide +kernel))) (hts _ (st_t 15 (by decide +kernel))) (va_eqi (hf _ st_mem5.1)) hA
  have hZs : va_Zq "jdk/internal/util/Preconditions" "SIOOBE_FORMATTER" "Ljava/util/function/BiFunction;" (fun q : Nat => s.heap.size ≤ q) s s.heap := va_Zqof (hts _ (st_t 444 (by decide +kernel))) (hts _ (st_t 17 (by decide +kernel))) (hf _ st_mem5.2.1) hA
  refine ⟨(D, fun j => match j with | 0 => c0 | 1 => c1 | 2 => c2 | 3 => c3 | 4 => c4 | _ => c5, s.heap.size, tI, adK, adV), rfl, ⟨⟨hD, ?_⟩, ?_, ?_, hZi, hT, hS, ?_, ?_, hZc, hZs⟩⟩
  · intro k q hq
    match k, hq with
    | 0, hq => cases hq; exact ⟨h0, n0⟩
    | 1, hq => cases hq; exact ⟨h1, n1⟩
    | 2, hq => cases hq; exact ⟨h2, n2⟩
    | 3, hq => cases hq; exact ⟨h3, n3⟩
    | 4, hq => cases hq; exact ⟨h4, n4⟩
    | 5, hq => cases hq; exact ⟨h5, n5⟩
    | k + 6, hq => simp [tyl] at hq
  · intro q hq
    exact va_Nw.of rfl (hts _ (st_nest q hq))
  · intro C hC
    exact va_AO.of (hts _ (st_ao C hC))
  · intro i q hq
    have hi : i < 4 := (List.getElem?_eq_some_iff.mp hq).1
    have e : txL.getD i (0, "") = q := by rw [List.getD_eq_getElem?_getD, hq]; rfl
    have h7 := hts _ (st_tx i hi)
    have h8 := hK i hi
    rw [st_tm, e] at h8
    rw [e] at h7
    exact vk_R.of h7 h8
  · exact (show (Cond.arrayOver (.array .int)).before args s = true from hts _ (st_t 168 (by decide +kernel)))
end START
/-- the empty heap that begins at an address -/
def hp0 (b : Nat) : Hp := (fun _ => 0, fun _ => 0, fun _ _ _ => 0, fun _ _ _ => none, b)
theorem pic_hp0 {z : Zt} {H : Heap} (h : zb z = H.size) : Pic z (hp0 H.size) H := ⟨rfl, fun a ha => absurd rfl ha⟩
/-- the law's end out of its pure predicate -/
theorem start_of {p : Program} {e : Env} {s : State} {m : MethodId} {below : List Frame} {meth : Method} {c : Code} (l : Launch) {b L : Nat} {xs : Nat → Int32} (C0 : lw_At p s m meth c b L xs) (hw : wp_L_law (hp0 s.heap.size) (L, xs)) : W p l e room_1 s m #[Value.ref b] below meth c s.heap [] 0 0 (lw_Z below #[Value.ref b] s) (entryFrame m ([Value.ref b] : List Value).toArray 4) := by
  obtain ⟨hx, hb, hr, hml, hown, hts, hX, hbl, hlocks, hgv⟩ := id C0
  obtain ⟨z, hz, hE⟩ := st_ev hts hgv
  have C : Cx p s m #[Value.ref b] meth c z cL_law 4 RL ret meth.name := ⟨hx, hb, hml, hown, fun w hw => hts w (List.mem_filter.mp hw).1, hE, Nat.le_of_eq hz, hlocks, hr, rfl⟩
  have hG := g_L_law (l := l) (e := e) (below := below) (Q := (L, xs)) C ⟨hX, hbl⟩ hz hw
  have hl := lv_entry ([.ref b]) (n := 4) (Nat.le_of_ble_eq_true rfl)
  rw [lg_entry_eq]
  exact hG s.heap [] _ 0 0 hl (pic_hp0 hz) va_S.rf (Nat.le_of_eq (Nat.zero_add _)) (Nat.le_of_eq (Nat.zero_add _))
