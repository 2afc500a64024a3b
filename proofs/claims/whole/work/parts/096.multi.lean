theorem vr_outer (c : ClassId) (N h0 : Nat) : ∀ i : Nat, Jvm.Free.Multi.outerC c N h0 i = arrV c N (fun j => va_rf (if j < i then some (h0 + 1 + j) else none))
  | 0 => by
    show ({ cls := c, slots := Array.replicate N .null, vm := .none } : Cell) = _
    rw [arrV_new]
    refine congrArg (arrV c N) (funext fun j => ?_)
    simp [va_rf]
  | i + 1 => by
    show (Jvm.Free.Multi.outerC c N h0 i).setSlot i (.ref (h0 + 1 + i)) = _
    rw [vr_outer c N h0 i, arrV_store]
    refine congrArg (arrV c N) (funext fun j => ?_)
    by_cases e : j = i
    · subst e
      simp [updV, va_rf]
    · by_cases h : j < i
      · simp [updV, e, h, Nat.lt_succ_of_lt h]
      · simp [updV, e, h, show ¬ j < i + 1 by omega]
section MULTI
variable {p : Program} {l : Launch} {e : Env} {R : Room} {s : State} {m : MethodId} {args : Array Value} {below : List Frame} {meth : Method} {c : Code} {z : Zt} {cc : ByteArray} {nL : Nat} {ow : String} {ret : Option FieldType} {nm : String} {Q : State → Prop} {bc bs pc : Nat} {lv : List (Nat × Value)} {st : List Value} {S : Hp}
/-- new int[7][41] -/
def nw2 (S : Hp) : Hp := (fun a => if a = S.2.2.2.2 then 25 else if S.2.2.2.2 < a ∧ a ≤ S.2.2.2.2 + 7 then 20 else S.1 a, fun a => if a = S.2.2.2.2 then 7 else if S.2.2.2.2 < a ∧ a ≤ S.2.2.2.2 + 7 then 41 else S.2.1 a, fun f a i => if S.2.2.2.2 ≤ a ∧ a ≤ S.2.2.2.2 + 7 then 0 else S.2.2.1 f a i, fun f a i => if a = S.2.2.2.2 then (if f = 0 ∧ i < 7 then some (S.2.2.2.2 + 1 + i) else none) else if S.2.2.2.2 < a ∧ a ≤ S.2.2.2.2 + 7 then none else S.2.2.2.1 f a i, S.2.2.2.2 + 8)
theorem kd_nw2 (S : Hp) (a : Nat) : kd (nw2 S) a = if a = sz S then 25 else if sz S < a ∧ a ≤ sz S + 7 then 20 else kd S a := rfl
theorem ln_nw2 (S : Hp) (a : Nat) : ln (nw2 S) a = if a = sz S then 7 else if sz S < a ∧ a ≤ sz S + 7 then 41 else ln S a := rfl
theorem gI_nw2 (S : Hp) (f a i : Nat) : gI (nw2 S) f a i = if sz S ≤ a ∧ a ≤ sz S + 7 then 0 else gI S f a i := rfl
theorem gR_nw2 (S : Hp) (f a i : Nat) : gR (nw2 S) f a i = if a = sz S then (if f = 0 ∧ i < 7 then some (sz S + 1 + i) else none) else if sz S < a ∧ a ≤ sz S + 7 then none else gR S f a i := rfl
theorem sz_nw2 (S : Hp) : sz (nw2 S) = sz S + 8 := rfl
theorem pic_nw2 {H H1 : Heap} (h : Pic z S H) (hz : zb z ≤ H.size) (e2 : H1.size = H.size + 8) (e3 : ∀ q, q < H.size → H1[q]? = H[q]?)
    (ho : H1[H.size]? = some (arrV (zA z 5) 7 (fun j => va_rf (if j < 7 then some (H.size + 1 + j) else none)))) (hi : ∀ j, j < 7 → H1[H.size + 1 + j]? = some (arrV (zA z 0) 41 (fun _ => .int 0))) : Pic z (nw2 S) H1 := by
  have hs : H.size = sz S := h.1
  refine ⟨by rw [e2, hs]; rfl, fun b hb => ?_⟩
  by_cases hbs : b = sz S
  · subst hbs
    have hkb : kd (nw2 S) (sz S) = 25 := by simp [kd_nw2]
    refine ⟨⟨by omega, by rw [sz_nw2]; omega⟩, fun cj M hj hM => ?_, fun hj => ?_, fun j hj0 hj => ?_⟩
    · rw [hkb] at hj
      have : cj = 24 := by omega
      subst this; simp [nFl] at hM
    · rw [hkb] at hj
      omega
    · rw [hkb] at hj
      have : j = 5 := by omega
      subst this
      rw [← hs, ho]
      simp [gR_nw2, ln_nw2, hs]
  · by_cases hbi : sz S < b ∧ b ≤ sz S + 7
    · have hkb : kd (nw2 S) b = 20 := by simp [kd_nw2, hbs, hbi]
      refine ⟨⟨by omega, by rw [sz_nw2]; omega⟩, fun cj M hj hM => ?_, fun hj => ?_, fun j hj0 hj => ?_⟩
      · rw [hkb] at hj
        have : cj = 19 := by omega
        subst this; simp [nFl] at hM
      · have e := hi (b - H.size - 1) (by omega)
        rw [show H.size + 1 + (b - H.size - 1) = b by omega] at e
        rw [e]
        have : sz S ≤ b ∧ b ≤ sz S + 7 := by omega
        simp [gI_nw2, ln_nw2, hbs, hbi, this]
      · rw [hkb] at hj
        omega
    · have hkb : kd (nw2 S) b = kd S b := by simp [kd_nw2, hbs, hbi]
      rw [hkb] at hb
      obtain ⟨g1, g2, g3, g4⟩ := h.2 b hb
      have e3b : H1[b]? = H[b]? := e3 b (by omega)
      have hn : ¬ (sz S ≤ b ∧ b ≤ sz S + 7) := by omega
      refine ⟨⟨g1.1, by rw [sz_nw2]; omega⟩, fun cj M hj hM => ?_, fun hj => ?_, fun j hj0 hj => ?_⟩
      · rw [hkb] at hj
        refine ((g2 cj M hj hM).kept e3b).to fun j _ => ?_
        exact Eq.symm (fV_keep (by rw [gI_nw2, if_neg hn]) (by rw [gR_nw2, if_neg hbs, if_neg hbi]))
      · rw [hkb] at hj
        rw [e3b, g3 hj]
        simp [gI_nw2, ln_nw2, hbs, hbi, hn]
      · rw [hkb] at hj
        rw [e3b, g4 j hj0 hj]
        simp [gR_nw2, ln_nw2, hbs, hbi]
theorem w_mcl : Cond.classLink RX6 9 "[[I" ∈ gt := gt_t 167 (by decide +kernel) rfl
set_option maxRecDepth 100000 in
theorem G_multi (C : Cx p s m args meth c z cc nL RX6 ret nm) (hd : decode cc pc = .ok (.multianewarray 9 2, 4)) (k : Go p l e R s m args below meth c z nL Q bc bs (pc + 4) lv (.ref (sz S) :: st) (nw2 S)) : Go p l e R s m args below meth c z nL Q (bc + 8) (bs + 294) pc lv (.int 41 :: .int 7 :: st) S := fun H locs ls cells slots hl hP hS g1 g2 => by
  intro T hT Xs
  have h164 : (164 : Nat) ≤ 536870912 := by omega
  have hn7 : (7 : Int32).toNatClampNeg = 7 := by decide
  have hn41 : (41 : Int32).toNatClampNeg = 41 := by decide
  obtain ⟨vm₁, cA, comp, -, fA, fC, hO, -, X', step⟩ := Xs.multianewarray2F (ty := .int) C.1 C.2.2.2.1 (C.2.2.2.2.1 _ w_mcl) (show (Cond.arrayOver (.array .int)).before args s = true from C.2.2.2.2.2.1.2.2.2.2.2.2.2.1) (C.2.2.2.2.1 _ w_aI) (g := F0 m pc ls (.int 41 :: .int 7 :: st)) rfl (by rw [C.2.1]; exact hd) rfl (by decide) (by decide) (by rw [hn7]; omega) (by rw [hn41]; exact Nat.le_trans (show 41 * componentBytes .int ≤ 164 from Nat.le_of_ble_eq_true rfl) h164) (by rw [hn41]; omega) rfl rfl (by rw [hn7]; omega) (by simp only [hn7, hn41]; omega)
  have ec : comp = zA z 0 := Option.some.inj (fC.symm.trans (C.2.2.2.2.2.1.1.2 0 _ rfl).2)
  subst ec
  have eA : cA = zA z 5 := Option.some.inj (fA.symm.trans (C.2.2.2.2.2.1.1.2 5 _ rfl).2)
  subst eA
  rw [hn7, hn41] at X' step
  generalize hF : Jvm.Free.Multi.fill (T.setVm vm₁) (zA z 5) (zA z 0) 7 41 (defaultValue .int) 7 = F at X' step
  have hTh : (T.setVm vm₁).heap = H := hT
  obtain ⟨f1, f2, -, -⟩ := Jvm.Free.Multi.fill_facts (T.setVm vm₁) (zA z 5) (zA z 0) 7 41 (defaultValue .int) 7
  rw [hF, hTh] at f1 f2
  have hold : ∀ x : Nat, x < H.size → F.heap[x]? = H[x]? := fun x hx => by
    have := Jvm.Free.Multi.fill_old (T.setVm vm₁) (zA z 5) (zA z 0) 7 41 (defaultValue .int) (a := x) (by rw [hTh]; exact hx) 7
    rw [hF, hTh] at this
    exact this
  have hrow : ∀ j : Nat, j < 7 → F.heap[H.size + 1 + j]? = some (arrV (zA z 0) 41 (fun _ => .int 0)) := fun j hj => by
    have := Jvm.Free.Multi.fill_inner (T.setVm vm₁) (zA z 5) (zA z 0) 7 41 (defaultValue .int) 7 j hj
    rw [hF, hTh] at this
    rw [this]
    exact congrArg some (arrV_new _ _ _)
  rw [vr_outer] at f2
  have hb : zb z ≤ H.size := Nat.le_trans C.2.2.2.2.2.2.1 hS.1
  have hz8 : F.heap.size = H.size + 8 := by rw [f1]
  have hP1 : Pic z (nw2 S) F.heap := pic_nw2 hP hb hz8 hold f2 hrow
  obtain ⟨t, a1, b1⟩ := k F.heap locs ls (cells + 1 + 7) (slots + 7 + 7 * 41) hl hP1 ⟨by rw [hz8]; have := hS.1; omega, fun x h1 h2 => (hold x (Nat.lt_of_lt_of_le h1 hS.1)).trans (hS.2.1 x h1 h2), hS.2.2⟩ (by omega) (by omega) F rfl X'
  refine ⟨t, step t ?_, b1⟩
  rw [hT, hP.1]
  exact a1
end MULTI
