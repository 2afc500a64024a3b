/-! ===== the judgement: from this place, with these locals, this stack, this heap and this allowance, the machine comes to Q ===== -/
def Cx (p : Program) (s : State) (m : MethodId) (args : Array Value) (meth : Method) (c : Code) (z : Zt) (cc : ByteArray) (nL : Nat) (ow : String) (ret : Option FieldType) (nm : String) : Prop :=
  p.tables.exec = Jvm.exec ∧ c.code = cc ∧ c.maxLocals = nL ∧ s.vm.findClass ow = some m.cls ∧ (∀ w ∈ gt, w.before args s = true) ∧ Ev z s s.heap ∧ zb z ≤ s.heap.size ∧ meth.locks = false ∧ meth.sig.returnType = ret ∧ meth.name = nm
def Go (p : Program) (l : Launch) (e : Env) (R : Room) (s : State) (m : MethodId) (args : Array Value) (below : List Frame) (meth : Method) (c : Code) (z : Zt) (nL : Nat) (Q : State → Prop) (bc bs : Nat) (pc : Nat) (lv : List (Nat × Value)) (st : List Value) (S : Hp) : Prop :=
  ∀ (H : Heap) (locs : List Loc) (ls : Array Slot) (cells slots : Nat), lv_has ls nL lv → Pic z S H → va_S (own z) s.heap H locs → cells + bc ≤ R.cells → slots + bs ≤ R.slots → W p l e R s m args below meth c H locs cells slots Q (F0 m pc ls st)
/-- a method's end: what it answers, the heap's tables behind it -/
def Qx (z : Zt) (post : Option Value → Hp → Prop) : Array Value → State → Outcome → State → Prop := fun _ st o t =>
  ∃ (v : Option Value) (S' : Hp), o = .returned v ∧ post v S' ∧ Pic z S' t.heap ∧ va_F (own z) st t
/-- a contract: called with these arguments on this heap, the method returns with post; f frames, so many words of locals, mc cells of ms slots -/
def Ct (l : Launch) (z : Zt) (y : MethodName) (cc : ByteArray) (nL : Nat) (ret : Option FieldType) (f loc mc ms : Nat) (av : List Value) (S : Hp) (post : Option Value → Hp → Prop) : Prop :=
  Met l y (mws y cc nL ret) { frames := f, cells := mc, slots := ms, locals := loc } (va_Pc av (fun U => Pic z S U.heap ∧ Ev z U U.heap ∧ zb z ≤ U.heap.size)) (Qx z post) mc ms (own z)
theorem pic_sz {z : Zt} {S : Hp} {H : Heap} (h : Pic z S H) : H.size = sz S := h.1
theorem pic_obj {z : Zt} {S : Hp} {H : Heap} (h : Pic z S H) {a ci N : Nat} (hk : kd S a = ci + 1) (hN : nFl[ci]? = some N) : t_OB a ((zD z).1 ci) N ((zD z).2 ci) H (fun k => fV S ci k a) := (h.2 a (by rw [hk]; omega)).2.1 ci N hk hN
theorem pic_arr {z : Zt} {S : Hp} {H : Heap} (h : Pic z S H) {a : Nat} (hk : kd S a = 20) : H[a]? = some (arrV (zA z 0) (ln S a) (fun j => .int (gI S 0 a j))) := (h.2 a (by rw [hk]; omega)).2.2.1 hk
theorem pic_arq {z : Zt} {S : Hp} {H : Heap} (h : Pic z S H) {a j : Nat} (hj : 0 < j) (hk : kd S a = 20 + j) : H[a]? = some (arrV (zA z j) (ln S a) (fun i => va_rf (gR S 0 a i))) := (h.2 a (by rw [hk]; omega)).2.2.2 j hj hk
theorem pic_own {z : Zt} {S : Hp} {H : Heap} (h : Pic z S H) {a : Nat} (hk : kd S a ≠ 0) : own z a := (h.2 a hk).1.1
theorem fV_keep {S S' : Hp} {ci k a : Nat} (hI : gI S' (16 * ci + k + 1) a 0 = gI S (16 * ci + k + 1) a 0) (hR : gR S' (16 * ci + k + 1) a 0 = gR S (16 * ci + k + 1) a 0) : fV S' ci k a = fV S ci k a := by
  unfold fV
  rw [hI, hR]
theorem fV_I {S : Hp} {ci k a : Nat} (h : (isIl.getD ci []).getD k true = true) : fV S ci k a = .int (gI S (16 * ci + k + 1) a 0) := by
  unfold fV
  rw [if_pos h]
theorem fV_R {S : Hp} {ci k a : Nat} (h : (isIl.getD ci []).getD k true = false) : fV S ci k a = va_rf (gR S (16 * ci + k + 1) a 0) := by
  unfold fV
  rw [if_neg (by rw [h]; decide)]
theorem nFl_lt {ci N : Nat} (h : nFl[ci]? = some N) : N ≤ 15 := by
  have hm := List.mem_of_getElem? h
  have : ∀ x ∈ nFl, x ≤ 15 := by decide
  exact this N hm
/-- a field of ints is written -/
theorem pic_putI {z : Zt} {S : Hp} {H H1 : Heap} (h : Pic z S H) {a ci N k : Nat} {v : Int32} {cell : Cell} (hk : kd S a = ci + 1) (hN : nFl[ci]? = some N) (hkN : k < N) (hi : (isIl.getD ci []).getD k true = true)
    (hq : t_OB a ((zD z).1 ci) N ((zD z).2 ci) H1 (updV (fun j => fV S ci j a) k (.int v))) (e2 : H1.size = H.size) (e3 : ∀ q, q ≠ a → H1[q]? = H[q]?) : Pic z (sI S (16 * ci + k + 1) a 0 v) H1 := by
  have hN15 := nFl_lt hN
  refine ⟨e2.trans h.1, fun b hb => ?_⟩
  obtain ⟨g1, g2, g3, g4⟩ := h.2 b hb
  refine ⟨g1, fun cj M hj hM => ?_, fun hj => ?_, fun j hj0 hj => ?_⟩
  · by_cases hba : b = a
    · subst hba
      have hcc : cj = ci := by have h1 : kd S b = cj + 1 := hj; omega
      subst hcc
      obtain rfl : M = N := Option.some.inj (hM.symm.trans hN)
      refine hq.to fun j hj => ?_
      by_cases hjk : j = k
      · subst hjk
        rw [fV_I hi]
        simp [updV, gI_sI]
      · have h5 : ¬ (16 * cj + j + 1 = 16 * cj + k + 1) := by omega
        simp only [updV, if_neg hjk]
        exact Eq.symm (fV_keep (by rw [gI_sI, if_neg (fun q => h5 q.1)]) (by rfl))
    · refine ((g2 cj M hj hM).kept (e3 b hba)).to fun j hj => ?_
      exact Eq.symm (fV_keep (by rw [gI_sI, if_neg (fun q => hba q.2.1)]) (by rfl))
  · have hba : b ≠ a := fun q => by subst q; have h1 : kd S b = 20 := hj; rw [hk] at h1; have : ci = 19 := by omega
                                    subst this; simp [nFl] at hN
    rw [e3 b hba, g3 hj]
    simp [gI_sI, ln_sI, hba]
  · have hba : b ≠ a := fun q => by subst q; have h1 : kd S b = 20 + j := hj; rw [hk] at h1; have : ci = 19 + j := by omega
                                    subst this; have := (List.getElem?_eq_some_iff.mp hN).1; simp [nFl] at this; omega
    rw [e3 b hba, g4 j hj0 hj]
    rfl
/-- a field of references is written -/
theorem pic_putR {z : Zt} {S : Hp} {H H1 : Heap} (h : Pic z S H) {a ci N k : Nat} {v : Option Nat} (hk : kd S a = ci + 1) (hN : nFl[ci]? = some N) (hkN : k < N) (hi : (isIl.getD ci []).getD k true = false)
    (hq : t_OB a ((zD z).1 ci) N ((zD z).2 ci) H1 (updV (fun j => fV S ci j a) k (va_rf v))) (e2 : H1.size = H.size) (e3 : ∀ q, q ≠ a → H1[q]? = H[q]?) : Pic z (sR S (16 * ci + k + 1) a 0 v) H1 := by
  refine ⟨e2.trans h.1, fun b hb => ?_⟩
  obtain ⟨g1, g2, g3, g4⟩ := h.2 b hb
  refine ⟨g1, fun cj M hj hM => ?_, fun hj => ?_, fun j hj0 hj => ?_⟩
  · by_cases hba : b = a
    · subst hba
      have hcc : cj = ci := by have h1 : kd S b = cj + 1 := hj; omega
      subst hcc
      obtain rfl : M = N := Option.some.inj (hM.symm.trans hN)
      refine hq.to fun j hj => ?_
      by_cases hjk : j = k
      · subst hjk
        rw [fV_R hi]
        simp [updV, gR_sR]
      · have h5 : ¬ (16 * cj + j + 1 = 16 * cj + k + 1) := by omega
        simp only [updV, if_neg hjk]
        exact Eq.symm (fV_keep (by rfl) (by rw [gR_sR, if_neg (fun q => h5 q.1)]))
    · refine ((g2 cj M hj hM).kept (e3 b hba)).to fun j hj => ?_
      exact Eq.symm (fV_keep (by rfl) (by rw [gR_sR, if_neg (fun q => hba q.2.1)]))
  · have hba : b ≠ a := fun q => by subst q; have h1 : kd S b = 20 := hj; rw [hk] at h1; have : ci = 19 := by omega
                                    subst this; simp [nFl] at hN
    rw [e3 b hba, g3 hj]
    rfl
  · have hba : b ≠ a := fun q => by subst q; have h1 : kd S b = 20 + j := hj; rw [hk] at h1; have : ci = 19 + j := by omega
                                    subst this; have := (List.getElem?_eq_some_iff.mp hN).1; simp [nFl] at this; omega
    rw [e3 b hba, g4 j hj0 hj]
    simp [gR_sR, ln_sR, hba]
/-- a place of an array of ints is written -/
theorem pic_putA {z : Zt} {S : Hp} {H H1 : Heap} (h : Pic z S H) {a i : Nat} {v : Int32} (hk : kd S a = 20) (e1 : H1[a]? = some (arrV (zA z 0) (ln S a) (updV (fun j => .int (gI S 0 a j)) i (.int v)))) (e2 : H1.size = H.size) (e3 : ∀ q, q ≠ a → H1[q]? = H[q]?) : Pic z (sI S 0 a i v) H1 := by
  refine ⟨e2.trans h.1, fun b hb => ?_⟩
  obtain ⟨g1, g2, g3, g4⟩ := h.2 b hb
  refine ⟨g1, fun cj M hj hM => ?_, fun hj => ?_, fun j hj0 hj => ?_⟩
  · have hba : b ≠ a := fun q => by subst q; have h1 : kd S b = cj + 1 := hj; rw [hk] at h1; have : cj = 19 := by omega
                                    subst this; simp [nFl] at hM
    refine ((g2 cj M hj hM).kept (e3 b hba)).to fun j hj => ?_
    exact Eq.symm (fV_keep (by rw [gI_sI, if_neg (fun q => by have := q.1; omega)]) (by rfl))
  · by_cases hba : b = a
    · subst hba
      rw [e1]
      congr 2
      funext j
      by_cases hji : j = i
      · subst hji; simp [updV, gI_sI]
      · simp [updV, gI_sI, hji]
    · rw [e3 b hba, g3 hj]
      simp [gI_sI, ln_sI, hba]
  · have hba : b ≠ a := fun q => by subst q; have h1 : kd S b = 20 + j := hj; rw [hk] at h1; omega
    rw [e3 b hba, g4 j hj0 hj]
    rfl
/-- a place of an array of references is written -/
theorem pic_putQ {z : Zt} {S : Hp} {H H1 : Heap} (h : Pic z S H) {a i j0 : Nat} {v : Option Nat} (hj0 : 0 < j0) (hk : kd S a = 20 + j0) (e1 : H1[a]? = some (arrV (zA z j0) (ln S a) (updV (fun j => va_rf (gR S 0 a j)) i (va_rf v)))) (e2 : H1.size = H.size) (e3 : ∀ q, q ≠ a → H1[q]? = H[q]?) : Pic z (sR S 0 a i v) H1 := by
  refine ⟨e2.trans h.1, fun b hb => ?_⟩
  obtain ⟨g1, g2, g3, g4⟩ := h.2 b hb
  refine ⟨g1, fun cj M hj hM => ?_, fun hj => ?_, fun j hj1 hj => ?_⟩
  · have hba : b ≠ a := fun q => by subst q; have h1 : kd S b = cj + 1 := hj; rw [hk] at h1; have : cj = 19 + j0 := by omega
                                    subst this; have := (List.getElem?_eq_some_iff.mp hM).1; simp [nFl] at this; omega
    refine ((g2 cj M hj hM).kept (e3 b hba)).to fun j hj => ?_
    exact Eq.symm (fV_keep (by rfl) (by rw [gR_sR, if_neg (fun q => by have := q.1; omega)]))
  · have hba : b ≠ a := fun q => by subst q; have h1 : kd S b = 20 := hj; rw [hk] at h1; omega
    rw [e3 b hba, g3 hj]
    rfl
  · by_cases hba : b = a
    · subst hba
      have hjj : j = j0 := by have h1 : kd S b = 20 + j := hj; omega
      subst hjj
      rw [e1]
      congr 2
      funext q
      by_cases hji : q = i
      · subst hji; simp [updV, gR_sR]
      · simp [updV, gR_sR, hji]
    · rw [e3 b hba, g4 j hj1 hj]
      simp [gR_sR, ln_sR, hba]
/-- a cell is made -/
theorem pic_new {z : Zt} {S : Hp} {H H1 : Heap} (h : Pic z S H) {k n : Nat} (hz : zb z ≤ H.size) (e2 : H1.size = H.size + 1) (e3 : ∀ q, q < H.size → H1[q]? = H[q]?)
    (ho : ∀ ci N, k = ci + 1 → nFl[ci]? = some N → t_OB H.size ((zD z).1 ci) N ((zD z).2 ci) H1 (fun j => if (isIl.getD ci []).getD j true then .int 0 else .null))
    (ha : k = 20 → H1[H.size]? = some (arrV (zA z 0) n (fun _ => .int 0))) (hq : ∀ j, 0 < j → k = 20 + j → H1[H.size]? = some (arrV (zA z j) n (fun _ => .null))) : Pic z (nw S k n) H1 := by
  have hs : H.size = sz S := h.1
  refine ⟨by rw [e2, hs]; rfl, fun b hb => ?_⟩
  by_cases hbs : b = sz S
  · subst hbs
    have hkb : kd (nw S k n) (sz S) = k := by simp [kd_nw]
    refine ⟨⟨by omega, by rw [sz_nw]; omega⟩, fun cj M hj hM => ?_, fun hj => ?_, fun j hj0 hj => ?_⟩
    · rw [hkb] at hj
      rw [← hs]
      refine (ho cj M hj hM).to fun j _ => ?_
      simp only [fV, gI_nw, gR_nw, hs, if_true]
      split <;> rfl
    · rw [hkb] at hj
      rw [← hs, ha hj]
      simp [gI_nw, ln_nw, hs]
    · rw [hkb] at hj
      rw [← hs, hq j hj0 hj]
      simp [gR_nw, ln_nw, hs, va_rf]
  · have hkb : kd (nw S k n) b = kd S b := by simp [kd_nw, hbs]
    rw [hkb] at hb
    obtain ⟨g1, g2, g3, g4⟩ := h.2 b hb
    have e3b : H1[b]? = H[b]? := e3 b (by omega)
    refine ⟨⟨g1.1, by rw [sz_nw]; omega⟩, fun cj M hj hM => ?_, fun hj => ?_, fun j hj0 hj => ?_⟩
    · rw [hkb] at hj
      refine ((g2 cj M hj hM).kept e3b).to fun j _ => ?_
      refine (fV_keep ?_ ?_).symm
      · rw [gI_nw, if_neg hbs]
      · rw [gR_nw, if_neg hbs]
    · rw [hkb] at hj
      rw [e3b, g3 hj]
      simp [gI_nw, ln_nw, hbs]
    · rw [hkb] at hj
      rw [e3b, g4 j hj0 hj]
      simp [gR_nw, ln_nw, hbs]
