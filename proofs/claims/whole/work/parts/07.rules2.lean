section RULES2
variable {p : Program} {l : Launch} {e : Env} {R : Room} {s : State} {m : MethodId} {args : Array Value} {below : List Frame} {meth : Method} {c : Code} {z : Zt} {cc : ByteArray} {nL : Nat} {ow : String} {ret : Option FieldType} {nm : String} {Q : State → Prop} {bc bs pc : Nat} {lv : List (Nat × Value)} {st : List Value} {S : Hp}
/-! arrays -/
theorem G_iald (C : Cx p s m args meth c z cc nL ow ret nm) {a : Nat} {i : Int32} (hk : kd S a = 20) (hin : vp_in i (ln S a)) (hd : decode cc pc = .ok (.iaload, 1)) (k : Go p l e R s m args below meth c z nL Q bc bs (pc + 1) lv (.int (gI S 0 a i.toNatClampNeg) :: st) S) : Go p l e R s m args below meth c z nL Q bc bs pc lv (.int i :: .ref a :: st) S := fun H locs ls cells slots hl hP hS h1 h2 => by
  have hlt : i.toNatClampNeg < ln S a := Nat.not_le.mp fun q => hin (Or.inr q)
  exact W.iald (v := .int (gI S 0 a i.toNatClampNeg)) C.1 C.2.1 (pic_arr hP hk) ((C.2.2.2.2.2.1.1.2 0 _ rfl).1 (ln S a) (fun j => .int (gI S 0 a j))) (fun q => by cases q) (by rw [arrV_size]; exact hin) (by rw [arrV_read _ _ hlt]) rfl rfl hd (k H locs ls cells slots hl hP hS h1 h2)
theorem G_iast (C : Cx p s m args meth c z cc nL ow ret nm) {a : Nat} {i x : Int32} (hk : kd S a = 20) (hin : vp_in i (ln S a)) (hd : decode cc pc = .ok (.iastore, 1)) (k : Go p l e R s m args below meth c z nL Q bc bs (pc + 1) lv st (sI S 0 a i.toNatClampNeg x)) : Go p l e R s m args below meth c z nL Q bc bs pc lv (.int x :: .int i :: .ref a :: st) S := fun H locs ls cells slots hl hP hS h1 h2 => by
  refine W.iast C.1 C.2.1 (pic_arr hP hk) ((C.2.2.2.2.2.1.1.2 0 _ rfl).1 (ln S a) (fun j => .int (gI S 0 a j))) (fun q => by cases q) (by rw [arrV_size]; exact hin) rfl rfl hd fun H1 e z1 oq => ?_
  rw [arrV_store] at e
  exact k H1 _ ls cells slots hl (pic_putA hP hk e z1 oq) (hS.put z1 oq (pic_own hP (by rw [hk]; decide))) h1 h2
theorem G_alenI (C : Cx p s m args meth c z cc nL ow ret nm) {a : Nat} (hk : kd S a = 20) (hd : decode cc pc = .ok (.arraylength, 1)) (k : Go p l e R s m args below meth c z nL Q bc bs (pc + 1) lv (.int (Int32.ofNat (ln S a)) :: st) S) : Go p l e R s m args below meth c z nL Q bc bs pc lv (.ref a :: st) S := fun H locs ls cells slots hl hP hS h1 h2 => by
  exact W.alen C.1 C.2.1 (pic_arr hP hk) ((C.2.2.2.2.2.1.1.2 0 _ rfl).1 (ln S a) (fun j => .int (gI S 0 a j))) (by rw [arrV_size]) rfl rfl hd (k H locs ls cells slots hl hP hS h1 h2)
theorem G_aald (C : Cx p s m args meth c z cc nL ow ret nm) {a : Nat} {i : Int32} (j : Nat) {ty : FieldType} (hj : (tyl z)[j]? = some (zA z j, ty)) (hj0 : 0 < j) (hty : ty.isReference = true) (hk : kd S a = 20 + j) (hin : vp_in i (ln S a)) (hd : decode cc pc = .ok (.aaload, 1)) (k : Go p l e R s m args below meth c z nL Q bc bs (pc + 1) lv (va_rf (gR S 0 a i.toNatClampNeg) :: st) S) : Go p l e R s m args below meth c z nL Q bc bs pc lv (.int i :: .ref a :: st) S := fun H locs ls cells slots hl hP hS h1 h2 => by
  have hlt : i.toNatClampNeg < ln S a := Nat.not_le.mp fun q => hin (Or.inr q)
  exact W.aald (v := va_rf (gR S 0 a i.toNatClampNeg)) (ty := ty) C.1 C.2.1 (pic_arq hP hj0 hk) ((C.2.2.2.2.2.1.1.2 j _ hj).1 (ln S a) (fun j => va_rf (gR S 0 a j))) hty (fun q => by cases q) (by rw [arrV_size]; exact hin) (by rw [arrV_read _ _ hlt]) rfl rfl hd (k H locs ls cells slots hl hP hS h1 h2)
/-- a reference to an object of the array's own component goes into it -/
theorem G_aast (C : Cx p s m args meth c z cc nL ow ret nm) {a v : Nat} {i : Int32} (j ci N : Nat) {Cn : String} {T : u_T} (hj : (tyl z)[j]? = some (zA z j, .object Cn)) (hj0 : 0 < j) (hc : vwCl[ci]? = some (Cn, T, N)) (hN : nFl[ci]? = some N) (hk : kd S a = 20 + j) (hv : kd S v = ci + 1) (hin : vp_in i (ln S a)) (hd : decode cc pc = .ok (.aastore, 1)) (k : Go p l e R s m args below meth c z nL Q bc bs (pc + 1) lv st (sR S 0 a i.toNatClampNeg (some v))) : Go p l e R s m args below meth c z nL Q bc bs pc lv (.ref v :: .int i :: .ref a :: st) S := fun H locs ls cells slots hl hP hS h1 h2 => by
  have hlt : i.toNatClampNeg < ln S a := Nat.not_le.mp fun q => hin (Or.inr q)
  have h0 : ¬ i < 0 := fun q => hin (Or.inl q)
  obtain ⟨cellV, g1, g2, g3, -⟩ := pic_obj hP hv hN
  have hcls := (C.2.2.2.2.2.1.1.1 ci _ hc).2
  obtain ⟨kA, comp, k1, k2, k3, -⟩ := (C.2.2.2.2.2.1.1.2 j _ hj).2
  have hcomp : comp = (zD z).1 ci := Option.some.inj (k3.symm.trans hcls.1)
  subst hcomp
  obtain ⟨kC, hkC, -⟩ := hcls.2
  refine W.aast C.1 C.2.1 (pic_arq hP hj0 hk) (fun q h => by cases h) (fun h => by cases h) k1 k2 rfl hkC ⟨h0, by rw [arrV_size]; exact hlt⟩ g1 (fun q h => by rw [g3] at h; cases h) (by rw [g2]; exact hkC) (by rw [g2]; exact va_assign hcls) rfl rfl hd fun H1 e z1 oq => ?_
  rw [arrV_store] at e
  exact k H1 _ ls cells slots hl (pic_putQ hP hj0 hk e z1 oq) (hS.put z1 oq (pic_own hP (by rw [hk]; omega))) h1 h2
/-! fields -/
theorem G_getI (C : Cx p s m args meth c z cc nL ow ret nm) {a : Nat} (ci k N : Nat) {Cn : String} {T : u_T} {ix : Nat} (hc : vwCl[ci]? = some (Cn, T, N)) (hN : nFl[ci]? = some N) (hk : k < N) (hin : ∀ w ∈ u_ws Cn T N, w ∈ gt) (hi : (isIl.getD ci []).getD k true = true) (hr : (T k).1 = Cn) (hw : Cond.fieldLink ow ix Cn (T k).2.1 (T k).2.2.1 ∈ gt) (hd : decode cc pc = .ok (.getfield ix, 3)) (hkd : kd S a = ci + 1)
    (kk : Go p l e R s m args below meth c z nL Q bc bs (pc + 3) lv (.int (gI S (16 * ci + k + 1) a 0) :: st) S) : Go p l e R s m args below meth c z nL Q bc bs pc lv (.ref a :: st) S := fun H locs ls cells slots hl hP hS h1 h2 => by
  obtain ⟨cell, q1, q2, q3, q4⟩ := pic_obj hP hkd hN
  obtain ⟨hSl, hfc, kC, hkC, hkind⟩ := C.2.2.2.2.2.1.1.1 ci _ hc
  obtain ⟨cf, kf, fi, f, hfi, hsl⟩ := hSl k hk
  refine W.getf C.1 C.2.1 C.2.2.2.1 (C.2.2.2.2.1 _ hw) (by rw [hr] at hfi; exact hfi) (u_facts hfc hkC (u_lays C.2.2.2.2.1 hin hk) hfi).1 q1 (by rw [q3]; exact fun h => by cases h) (v := .int (gI S (16 * ci + k + 1) a 0)) ?_ rfl rfl hd (kk H locs ls cells slots hl hP hS h1 h2)
  rw [hsl, q4 k hk]
  exact congrArg some (fV_I hi)
theorem G_getR (C : Cx p s m args meth c z cc nL ow ret nm) {a : Nat} (ci k N : Nat) {Cn : String} {T : u_T} {ix : Nat} (hc : vwCl[ci]? = some (Cn, T, N)) (hN : nFl[ci]? = some N) (hk : k < N) (hin : ∀ w ∈ u_ws Cn T N, w ∈ gt) (hi : (isIl.getD ci []).getD k true = false) (hr : (T k).1 = Cn) (hw : Cond.fieldLink ow ix Cn (T k).2.1 (T k).2.2.1 ∈ gt) (hd : decode cc pc = .ok (.getfield ix, 3)) (hkd : kd S a = ci + 1)
    (kk : Go p l e R s m args below meth c z nL Q bc bs (pc + 3) lv (va_rf (gR S (16 * ci + k + 1) a 0) :: st) S) : Go p l e R s m args below meth c z nL Q bc bs pc lv (.ref a :: st) S := fun H locs ls cells slots hl hP hS h1 h2 => by
  obtain ⟨cell, q1, q2, q3, q4⟩ := pic_obj hP hkd hN
  obtain ⟨hSl, hfc, kC, hkC, hkind⟩ := C.2.2.2.2.2.1.1.1 ci _ hc
  obtain ⟨cf, kf, fi, f, hfi, hsl⟩ := hSl k hk
  refine W.getf C.1 C.2.1 C.2.2.2.1 (C.2.2.2.2.1 _ hw) (by rw [hr] at hfi; exact hfi) (u_facts hfc hkC (u_lays C.2.2.2.2.1 hin hk) hfi).1 q1 (by rw [q3]; exact fun h => by cases h) (v := va_rf (gR S (16 * ci + k + 1) a 0)) ?_ rfl rfl hd (kk H locs ls cells slots hl hP hS h1 h2)
  rw [hsl, q4 k hk]
  exact congrArg some (fV_R hi)
/-- what a put does to an object's cell: not final, or final in a constructor of its own class -/
theorem G_put0 (C : Cx p s m args meth c z cc nL ow ret nm) {a : Nat} (ci k N : Nat) {Cn : String} {T : u_T} {ix : Nat} (hc : vwCl[ci]? = some (Cn, T, N)) (hN : nFl[ci]? = some N) (hk : k < N) (hin : ∀ w ∈ u_ws Cn T N, w ∈ gt) (ty0 : Nat → FieldType) (hty : ∀ k, k < N → parseFieldDescriptor (T k).2.2.1 = some (ty0 k)) (hnm : ∀ a, a < N → ∀ b, b < N → a ≠ b → (T a).2.1 ≠ (T b).2.1) (hr : (T k).1 = Cn) (hw : Cond.fieldLink ow ix Cn (T k).2.1 (T k).2.2.1 ∈ gt) (hfin : (T k).2.2.2 = false ∨ ((T k).2.2.2 = true ∧ nm = "<init>" ∧ Cn = ow)) {v : Value} (hn : narrow (ty0 k) v = v) (hfit : fits (ty0 k) v = true) (hd : decode cc pc = .ok (.putfield ix, 3)) (hkd : kd S a = ci + 1) {H : Heap} {locs : List Loc} {ls : Array Slot} {cells slots : Nat} (hP : Pic z S H) (hS : va_S (own z) s.heap H locs)
    (kk : ∀ (H1 : Heap) (locs1 : List Loc), t_OB a ((zD z).1 ci) N ((zD z).2 ci) H1 (updV (fun j => fV S ci j a) k v) → H1.size = H.size → (∀ q, q ≠ a → H1[q]? = H[q]?) → va_S (own z) s.heap H1 locs1 → W p l e R s m args below meth c H1 locs1 cells slots Q (F0 m (pc + 3) ls st)) : W p l e R s m args below meth c H locs cells slots Q (F0 m pc ls (v :: .ref a :: st)) := by
  have hap := va_apart (own := ow) C.2.2.2.2.1 hin ty0 hty hnm C.2.2.2.2.2.1.1 hc
  obtain ⟨cell, q1, q2, q3, q4⟩ := pic_obj hP hkd hN
  obtain ⟨hSl, hfc, kC, hkC, hkind⟩ := C.2.2.2.2.2.1.1.1 ci _ hc
  obtain ⟨cf, kf, fi, f, hfi, hsl⟩ := hSl k hk
  have hlay := C.2.2.2.2.1 _ (hin _ (u_in_lay hk))
  unfold u_lay at hlay
  have hst := (u_facts hfc hkC (u_lays C.2.2.2.2.1 hin hk) hfi).1
  have hfi' : s.fieldFound? Cn (T k).2.1 (T k).2.2.1 = some (cf, kf, fi, f) := by rw [hr] at hfi; exact hfi
  have hown := pic_own hP (a := a) (by rw [hkd]; omega)
  rcases hfin with hfin | ⟨hfin, hin2, hdecl⟩
  · rw [if_neg (by rw [hfin]; decide)] at hlay
    have h6 := u_store hfc hkC hkind hlay hfi (hty k hk) hn hfit
    refine W.putK C.1 C.2.1 (f := f) ⟨C.2.2.2.1, C.2.2.2.2.1 _ hw, ⟨_, _, _, hfi'⟩, hst⟩ (by rw [q2]; exact h6) q1 q3 (by rw [hsl]; exact k2_hasslot (q4 k hk)) rfl rfl hd fun H' e1 e2 e3 => ?_
    rw [hsl] at e1 ⊢
    exact kk H' _ ⟨_, e1, q2, q3, t_set q4 hap hk v⟩ e2 e3 (hS.put e2 e3 hown)
  · rw [if_pos hfin] at hlay
    have hcf : m.cls = cf := by
      obtain ⟨_, _, c', _, _, _, -, -, hf', -, -, -, hown2, -⟩ := Cond.laysFinal_spec hlay
      have e1 : c' = cf := by have := hfi.symm.trans hf'; simp at this; exact this.1.symm
      rw [hr, hdecl] at hown2
      rw [← e1]; exact Option.some.inj (C.2.2.2.1.symm.trans hown2)
    have h6 := u_fits hfc hkC hkind (Or.inr hlay) hfi (hty k hk) hn hfit
    refine W.putFinK C.1 C.2.1 C.2.2.2.1 (C.2.2.2.2.1 _ hw) hfi' hst hcf (by rw [C.2.2.2.2.2.2.2.2.2]; exact hin2) (by rw [q2]; exact h6) q1 q3 (by rw [hsl]; exact k2_hasslot (q4 k hk)) rfl rfl hd fun H' e1 e2 e3 => ?_
    rw [hsl] at e1 ⊢
    exact kk H' _ ⟨_, e1, q2, q3, t_set q4 hap hk v⟩ e2 e3 (hS.put e2 e3 hown)
theorem G_putI (C : Cx p s m args meth c z cc nL ow ret nm) {a : Nat} (ci k N : Nat) {Cn : String} {T : u_T} {ix : Nat} (hc : vwCl[ci]? = some (Cn, T, N)) (hN : nFl[ci]? = some N) (hk : k < N) (hin : ∀ w ∈ u_ws Cn T N, w ∈ gt) (ty0 : Nat → FieldType) (hty : ∀ k, k < N → parseFieldDescriptor (T k).2.2.1 = some (ty0 k)) (hnm : ∀ a, a < N → ∀ b, b < N → a ≠ b → (T a).2.1 ≠ (T b).2.1) (hi : (isIl.getD ci []).getD k true = true) (hr : (T k).1 = Cn) (hw : Cond.fieldLink ow ix Cn (T k).2.1 (T k).2.2.1 ∈ gt) (hfin : (T k).2.2.2 = false ∨ ((T k).2.2.2 = true ∧ nm = "<init>" ∧ Cn = ow)) {v : Int32} (hn : narrow (ty0 k) (.int v) = .int v) (hfit : fits (ty0 k) (.int v) = true) (hd : decode cc pc = .ok (.putfield ix, 3)) (hkd : kd S a = ci + 1)
    (kk : Go p l e R s m args below meth c z nL Q bc bs (pc + 3) lv st (sI S (16 * ci + k + 1) a 0 v)) : Go p l e R s m args below meth c z nL Q bc bs pc lv (.int v :: .ref a :: st) S := fun H locs ls cells slots hl hP hS h1 h2 =>
  G_put0 C ci k N hc hN hk hin ty0 hty hnm hr hw hfin hn hfit hd hkd hP hS fun H1 locs1 hq e2 e3 hS1 => kk H1 locs1 ls cells slots hl (pic_putI (cell := default) hP hkd hN hk hi hq e2 e3) hS1 h1 h2
theorem G_putR (C : Cx p s m args meth c z cc nL ow ret nm) {a : Nat} (ci k N : Nat) {Cn : String} {T : u_T} {ix : Nat} (hc : vwCl[ci]? = some (Cn, T, N)) (hN : nFl[ci]? = some N) (hk : k < N) (hin : ∀ w ∈ u_ws Cn T N, w ∈ gt) (ty0 : Nat → FieldType) (hty : ∀ k, k < N → parseFieldDescriptor (T k).2.2.1 = some (ty0 k)) (hnm : ∀ a, a < N → ∀ b, b < N → a ≠ b → (T a).2.1 ≠ (T b).2.1) (hi : (isIl.getD ci []).getD k true = false) (hr : (T k).1 = Cn) (hw : Cond.fieldLink ow ix Cn (T k).2.1 (T k).2.2.1 ∈ gt) (hfin : (T k).2.2.2 = false ∨ ((T k).2.2.2 = true ∧ nm = "<init>" ∧ Cn = ow)) {v : Option Nat} (hn : ∀ a, narrow (ty0 k) (.ref a) = .ref a) (hn0 : narrow (ty0 k) .null = .null) (hfit : ∀ a, fits (ty0 k) (.ref a) = true) (hfit0 : fits (ty0 k) .null = true) (hd : decode cc pc = .ok (.putfield ix, 3)) (hkd : kd S a = ci + 1)
    (kk : Go p l e R s m args below meth c z nL Q bc bs (pc + 3) lv st (sR S (16 * ci + k + 1) a 0 v)) : Go p l e R s m args below meth c z nL Q bc bs pc lv (va_rf v :: .ref a :: st) S := fun H locs ls cells slots hl hP hS h1 h2 =>
  G_put0 C ci k N hc hN hk hin ty0 hty hnm hr hw hfin (v := va_rf v) (by cases v with | none => exact hn0 | some x => exact hn x) (by cases v with | none => exact hfit0 | some x => exact hfit x) hd hkd hP hS fun H1 locs1 hq e2 e3 hS1 => kk H1 locs1 ls cells slots hl (pic_putR hP hkd hN hk hi hq e2 e3) hS1 h1 h2
/-! new cells -/
theorem G_new (C : Cx p s m args meth c z cc nL ow ret nm) (ci N : Nat) {Cn : String} {T : u_T} {ix : Nat} (hc : vwCl[ci]? = some (Cn, T, N)) (hN : nFl[ci]? = some N) (hin : ∀ w ∈ u_ws Cn T N, w ∈ gt) (ty0 : Nat → FieldType) (hty : ∀ k, k < N → parseFieldDescriptor (T k).2.2.1 = some (ty0 k)) (hdf : ∀ j, j < N → defaultValue (ty0 j) = if (isIl.getD ci []).getD j true then .int 0 else .null) (hw : Cond.classLink ow ix Cn ∈ gt) (hw2 : Cond.instantiable Cn N ∈ gt) (hw3 : Cond.initialized Cn ∈ gt) (hd : decode cc pc = .ok (.new ix, 3))
    (kk : Go p l e R s m args below meth c z nL Q bc bs (pc + 3) lv (.ref (sz S) :: st) (nw S (ci + 1) 0)) : Go p l e R s m args below meth c z nL Q (bc + 1) (bs + N) pc lv st S := fun H locs ls cells slots hl hP hS h1 h2 => by
  have hKn := C.2.2.2.2.2.1.1.1 ci _ hc
  refine W.newcK C.1 C.2.1 C.2.2.2.1 (C.2.2.2.2.1 _ hw) (C.2.2.2.2.1 _ hw2) (C.2.2.2.2.1 _ hw3) rfl hd (by omega) (by omega) hKn.2.1 rfl fun H1 kC hkC e1 z1 o1 => ?_
  have hb : zb z ≤ H.size := Nat.le_trans C.2.2.2.2.2.2.1 hS.1
  have hP1 : Pic z (nw S (ci + 1) 0) H1 := by
    refine pic_new hP hb z1 o1 (fun cj M hj hM => ?_) (fun hj => ?_) (fun j hj0 hj => ?_)
    · have hcc : cj = ci := by omega
      subst hcc
      obtain rfl : M = N := Option.some.inj (hM.symm.trans hN)
      exact (u_born ty0 C.2.2.2.2.1 hin hKn hkC e1 hty).to hdf
    · have : ci = 19 := by omega
      subst this; simp [nFl] at hN
    · have : ci = 19 + j := by omega
      subst this; have := (List.getElem?_eq_some_iff.mp hN).1; simp [nFl] at this; omega
  rw [hP.1]
  exact kk H1 locs ls (cells + 1) (slots + N) hl hP1 ⟨Nat.le_trans hS.1 (by omega), fun x g1 g2 => (o1 x (Nat.lt_of_lt_of_le g1 hS.1)).trans (hS.2.1 x g1 g2), hS.2.2⟩ (by omega) (by omega)
theorem G_newa (C : Cx p s m args meth c z cc nL ow ret nm) {n : Int32} (N : Nat) (hw : Cond.arrayClass .int ∈ gt) (hn : ¬ n < 0) (hN : n.toNatClampNeg = N) (hby : N * 4 ≤ 536870912) (hd : decode cc pc = .ok (.newarray .int, 2))
    (kk : Go p l e R s m args below meth c z nL Q bc bs (pc + 2) lv (.ref (sz S) :: st) (nw S 20 N)) : Go p l e R s m args below meth c z nL Q (bc + 1) (bs + N) pc lv (.int n :: st) S := fun H locs ls cells slots hl hP hS h1 h2 => by
  refine va_newaK (atype := .int) C.1 C.2.1 (C.2.2.2.2.1 _ hw) rfl hd rfl hn hN hby (by omega) (by omega) rfl fun H1 cA e1 z1 o1 hAr hNm => ?_
  have hb : zb z ≤ H.size := Nat.le_trans C.2.2.2.2.2.2.1 hS.1
  have hcA : cA = zA z 0 := Option.some.inj (hNm.symm.trans (C.2.2.2.2.2.1.1.2 0 _ rfl).2)
  subst hcA
  have hP1 : Pic z (nw S 20 N) H1 := by
    refine pic_new hP hb z1 o1 (fun cj M hj hM => ?_) (fun hj => e1) (fun j hj0 hj => by omega)
    have : cj = 19 := by omega
    subst this; simp [nFl] at hM
  rw [hP.1]
  exact kk H1 locs ls (cells + 1) (slots + N) hl hP1 ⟨Nat.le_trans hS.1 (by omega), fun x g1 g2 => (o1 x (Nat.lt_of_lt_of_le g1 hS.1)).trans (hS.2.1 x g1 g2), hS.2.2⟩ (by omega) (by omega)
theorem G_anew (C : Cx p s m args meth c z cc nL ow ret nm) {n : Int32} (j N : Nat) {Cn : String} {ix : Nat} (hj : (tyl z)[j]? = some (zA z j, .object Cn)) (hj0 : 0 < j) (hao : Cn ∈ aoL) (hw : Cond.classLink ow ix Cn ∈ gt) (hn : ¬ n < 0) (hN : n.toNatClampNeg = N) (hby : N * 4 ≤ 536870912) (hd : decode cc pc = .ok (.anewarray ix, 3))
    (kk : Go p l e R s m args below meth c z nL Q bc bs (pc + 3) lv (.ref (sz S) :: st) (nw S (20 + j) N)) : Go p l e R s m args below meth c z nL Q (bc + 1) (bs + N) pc lv (.int n :: st) S := fun H locs ls cells slots hl hP hS h1 h2 => by
  subst hN
  refine W.anew C.1 C.2.1 C.2.2.2.1 (C.2.2.2.2.1 _ hw) (va_AO.use (C.2.2.2.2.2.1.2.2.1 _ hao)) rfl hd rfl hn hby (by omega) (by omega) fun cA kA comp f1 f2 f3 f4 => ?_
  generalize hH1 : H.push ({ cls := cA, slots := Array.replicate n.toNatClampNeg .null, vm := .none } : Cell) = H1
  have z1 : H1.size = H.size + 1 := by rw [← hH1, Array.size_push]
  have e1 : H1[H.size]? = some (arrV cA n.toNatClampNeg (fun _ => .null)) := by rw [← hH1, Array.getElem?_push_size, ← arrV_new]
  have o1 : ∀ q : Nat, q < H.size → H1[q]? = H[q]? := fun q hq => by rw [← hH1, Array.getElem?_push, if_neg (Nat.ne_of_lt hq)]
  have hb : zb z ≤ H.size := Nat.le_trans C.2.2.2.2.2.2.1 hS.1
  obtain ⟨-, -, -, -, -, hNm⟩ := (C.2.2.2.2.2.1.1.2 j _ hj).2
  have hcA : cA = zA z j := Option.some.inj (f1.symm.trans hNm)
  subst hcA
  have hP1 : Pic z (nw S (20 + j) n.toNatClampNeg) H1 := by
    refine pic_new hP hb z1 o1 (fun cj M hj hM => ?_) (fun hj => by omega) (fun i hi0 hi => ?_)
    · have : cj = 19 + j := by omega
      subst this; have := (List.getElem?_eq_some_iff.mp hM).1; simp [nFl] at this; omega
    · have : i = j := by omega
      subst this; exact e1
  rw [hP.1]
  exact kk H1 locs ls (cells + 1) (slots + n.toNatClampNeg) hl hP1 ⟨Nat.le_trans hS.1 (by omega), fun x g1 g2 => (o1 x (Nat.lt_of_lt_of_le g1 hS.1)).trans (hS.2.1 x g1 g2), hS.2.2⟩ (by omega) (by omega)
/-! ends -/
theorem G_iret (C : Cx p s m args meth c z cc nL ow ret nm) {x : Int32} {post : Option Value → Hp → Prop} (hr : ret = some .int) (hd : decode cc pc = .ok (.ireturn, 1)) (hq : post (some (.int x)) S) : Go p l e R s m args below meth c z nL (MQ below (Qx z post) args s R.cells R.slots (own z)) bc bs pc lv [.int x] S := fun H locs ls cells slots hl hP hS h1 h2 => by
  refine W.widen (k := R.cells) (n := R.slots) (by omega) (by omega) ?_
  exact W.iret C.1 C.2.1 (by rw [C.2.2.2.2.2.2.2.2.1]; exact hr) (fun t ht _ => ⟨_, S, rfl, hq, by rw [ht]; exact hP, hS.F ht⟩) hS.2.2 hd C.2.2.2.2.2.2.2.1
theorem G_zret (C : Cx p s m args meth c z cc nL ow ret nm) {x : Int32} {post : Option Value → Hp → Prop} (hr : ret = some .boolean) (hx : x = 0 ∨ x = 1) (hd : decode cc pc = .ok (.ireturn, 1)) (hq : post (some (.int x)) S) : Go p l e R s m args below meth c z nL (MQ below (Qx z post) args s R.cells R.slots (own z)) bc bs pc lv [.int x] S := fun H locs ls cells slots hl hP hS h1 h2 => by
  refine W.widen (k := R.cells) (n := R.slots) (by omega) (by omega) ?_
  exact W.zret C.1 C.2.1 (by rw [C.2.2.2.2.2.2.2.2.1]; exact hr) (by rcases hx with rfl | rfl <;> rfl) (fun t ht _ => ⟨_, S, rfl, hq, by rw [ht]; exact hP, hS.F ht⟩) hS.2.2 hd C.2.2.2.2.2.2.2.1
theorem G_vret (C : Cx p s m args meth c z cc nL ow ret nm) {post : Option Value → Hp → Prop} (hr : ret = none) (hd : decode cc pc = .ok (.return_, 1)) (hq : post none S) : Go p l e R s m args below meth c z nL (MQ below (Qx z post) args s R.cells R.slots (own z)) bc bs pc lv [] S := fun H locs ls cells slots hl hP hS h1 h2 => by
  refine W.widen (k := R.cells) (n := R.slots) (by omega) (by omega) ?_
  exact W.vret C.1 C.2.1 (by rw [C.2.2.2.2.2.2.2.2.1]; exact hr) (fun t ht _ => ⟨_, S, rfl, hq, by rw [ht]; exact hP, hS.F ht⟩) hS.2.2 hd C.2.2.2.2.2.2.2.1
theorem G_aret (C : Cx p s m args meth c z cc nL ow ret nm) {a : Nat} {post : Option Value → Hp → Prop} {rt : FieldType} (hr : ret = some rt) (hrt : (∃ n, rt = .object n) ∨ ∃ t, rt = .array t) (hd : decode cc pc = .ok (.areturn, 1)) (hq : post (some (.ref a)) S) : Go p l e R s m args below meth c z nL (MQ below (Qx z post) args s R.cells R.slots (own z)) bc bs pc lv [.ref a] S := fun H locs ls cells slots hl hP hS h1 h2 => by
  refine W.widen (k := R.cells) (n := R.slots) (by omega) (by omega) ?_
  exact W.aret C.1 C.2.1 (by rw [C.2.2.2.2.2.2.2.2.1]; exact hr) hrt (Or.inr ⟨_, rfl⟩) (fun t ht _ => ⟨_, S, rfl, hq, by rw [ht]; exact hP, hS.F ht⟩) hS.2.2 hd C.2.2.2.2.2.2.2.1
/-! a method's contract out of its body -/
theorem Ct_of {y : MethodName} {f loc mc ms : Nat} {av : List Value} {post : Option Value → Hp → Prop} (hy : plainName y.cls = true) (hlen : (lg_sl av).length ≤ nL)
    (body : ∀ (p : Program) (e : Env) (s : State) (m : MethodId) (args : Array Value) (below : List Frame) (meth : Method) (c : Code), Cx p s m args meth c z cc nL y.cls ret y.name → Go p l e { frames := f, cells := mc, slots := ms, locals := loc } s m args below meth c z nL (MQ below (Qx z post) args s mc ms (own z)) mc ms 0 (lv_args 0 av) [] S) : Ct l z y cc nL ret f loc mc ms av S post := by
  refine Met.ofW (cc := cc) (maxL := nL) (ret := ret) hy rfl ?_
  intro p e s m args below meth c s₁ B hml hv
  obtain ⟨rfl, hP, hE, hbz⟩ := hv
  have hts := atoms_spec (ws := mws y cc nL ret) B.pre
  have C : Cx p s m av.toArray meth c z cc nL y.cls ret y.name := ⟨B.exec, B.bytes, hml, findClass_of_methodNamed B.named, fun w hw => hts w (List.mem_cons_of_mem _ hw), hE, hbz, B.notSynchronized, B.returns, (name_of_methodNamed B.named B.method).1⟩
  have hl := lv_entry av (n := nL) hlen
  rw [lg_entry_eq]
  exact body p e s m av.toArray below meth c C s.heap [] _ 0 0 hl hP va_S.rf (Nat.le_of_eq (Nat.zero_add _)) (Nat.le_of_eq (Nat.zero_add _))
end RULES2
