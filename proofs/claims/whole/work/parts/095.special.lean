section SPECIAL
variable {p : Program} {l : Launch} {e : Env} {R : Room} {s : State} {m : MethodId} {args : Array Value} {below : List Frame} {meth : Method} {c : Code} {z : Zt} {cc : ByteArray} {nL : Nat} {ow : String} {ret : Option FieldType} {nm : String} {Q : State → Prop} {bc bs pc : Nat} {lv : List (Nat × Value)} {st : List Value} {S : Hp}
/-! System.arraycopy from place 0 to place 0 -/
def cpA (S : Hp) (a b n : Nat) : Hp := (S.1, S.2.1, fun f' a' i' => if f' = 0 ∧ a' = b ∧ i' < n then S.2.2.1 0 a i' else S.2.2.1 f' a' i', S.2.2.2.1, S.2.2.2.2)
theorem kd_cpA (S : Hp) (a b n q : Nat) : kd (cpA S a b n) q = kd S q := rfl
theorem ln_cpA (S : Hp) (a b n q : Nat) : ln (cpA S a b n) q = ln S q := rfl
theorem sz_cpA (S : Hp) (a b n : Nat) : sz (cpA S a b n) = sz S := rfl
theorem gR_cpA (S : Hp) (a b n f' a' i' : Nat) : gR (cpA S a b n) f' a' i' = gR S f' a' i' := rfl
theorem gI_cpA (S : Hp) (a b n f' a' i' : Nat) : gI (cpA S a b n) f' a' i' = if f' = 0 ∧ a' = b ∧ i' < n then gI S 0 a i' else gI S f' a' i' := rfl
theorem pic_cpA {H H1 : Heap} {a b n : Nat} (h : Pic z S H) (hk : kd S b = 20) (e1 : H1[b]? = some (arrV (zA z 0) (ln S b) (fun j => .int (if j < n then gI S 0 a j else gI S 0 b j)))) (e2 : H1.size = H.size) (e3 : ∀ q, q ≠ b → H1[q]? = H[q]?) : Pic z (cpA S a b n) H1 := by
  refine ⟨e2.trans h.1, fun q hb => ?_⟩
  obtain ⟨g1, g2, g3, g4⟩ := h.2 q hb
  refine ⟨g1, fun cj M hj hM => ?_, fun hj => ?_, fun j hj0 hj => ?_⟩
  · have hba : q ≠ b := fun x => by subst x; have h1 : kd S q = cj + 1 := hj; rw [hk] at h1; have : cj = 19 := by omega
                                    subst this; simp [nFl] at hM
    refine ((g2 cj M hj hM).kept (e3 q hba)).to fun j hj => ?_
    exact Eq.symm (fV_keep (by rw [gI_cpA, if_neg (fun x => by have := x.1; omega)]) (by rfl))
  · by_cases hba : q = b
    · subst hba
      rw [e1]
      congr 2
      funext j
      simp [gI_cpA]
    · rw [e3 q hba, g3 hj]
      simp [gI_cpA, ln_cpA, hba]
  · have hba : q ≠ b := fun x => by subst x; have h1 : kd S q = 20 + j := hj; rw [hk] at h1; omega
    rw [e3 q hba, g4 j hj0 hj]
    rfl
theorem w_cpn : Cond.native arraycopyName ∈ lw_tbl := List.mem_append_right _ (List.mem_of_getElem? (i := 558) (by decide +kernel))
theorem w_cpg : goodWord (Cond.native arraycopyName) = true := by decide +kernel
theorem w_cps : Cond.static arraycopyName ∈ gt := gt_t 557 (by decide +kernel) rfl
theorem w_sys : Cond.initialized "java/lang/System" ∈ gt := gt_t 19 (by decide +kernel) rfl
theorem G_copy (C : Cx p s m args meth c z cc nL ow ret nm) {ix a0 a : Nat} (n : Nat) (w1 : Cond.methodLink ow ix arraycopyName ∈ gt) (hn : n < 2 ^ 31) (hk0 : kd S a0 = 20) (hk1 : kd S a = 20) (hne : a0 ≠ a) (h4 : n ≤ ln S a0) (h5 : n ≤ ln S a) (hf : 1 ≤ R.frames) (hlo : 32 ≤ R.locals) (hd : decode cc pc = .ok (.invokestatic ix, 3)) (k : Go p l e R s m args below meth c z nL Q bc bs (pc + 3) lv [] (cpA S a0 a n)) : Go p l e R s m args below meth c z nL Q bc bs pc lv [.int (Int32.ofNat n), .int 0, .ref a, .int 0, .ref a0] S := fun H locs ls cells slots hl hP hS g1 g2 => by
  have hn0 : ¬ (Int32.ofNat n) < 0 := nI_pos hn
  have hnn : (Int32.ofNat n).toNatClampNeg = n := nI_clamp hn
  have hnt : (Int32.ofNat n).toInt = (n : Int) := nI_toInt hn
  intro T hT X
  have hc0 := pic_arr hP hk0
  have hc1 := pic_arr hP hk1
  have hK := C.2.2.2.2.2.1.1
  obtain ⟨-, k0, hk0', cm0, hkk0⟩ := (hK.2 0 _ rfl).1 (ln S a0) (fun j => .int (gI S 0 a0 j))
  obtain ⟨-, k1, hk1', cm1, hkk1⟩ := (hK.2 0 _ rfl).1 (ln S a) (fun j => .int (gI S 0 a j))
  obtain ⟨vm', X', step⟩ := X.arraycopy C.1 C.2.2.2.1 (C.2.2.2.2.1 _ w1) (C.2.2.2.2.1 _ (gt_of w_cpn w_cpg)) (C.2.2.2.2.1 _ w_cps) (C.2.2.2.2.1 _ w_sys) (src := a0) (dst := a) (cs := arrV (zA z 0) (ln S a0) (fun j => .int (gI S 0 a0 j))) (cd := arrV (zA z 0) (ln S a) (fun j => .int (gI S 0 a j))) (srcPos := 0) (destPos := 0) (n := Int32.ofNat n) (by rw [hT]; exact hc0) (by rw [hT]; exact hc1)
    (fun _ h => by cases h) (fun _ h => by cases h) (fun h => by cases h) (fun h => by cases h) hk0' hk1' hkk0 hkk1 rfl (by decide) (by decide) hn0
    (by rw [hnt, arrV_size]; show ¬ (0 : Int) + _ > _; omega)
    (by rw [hnt, arrV_size]; show ¬ (0 : Int) + _ > _; omega)
    (fun vm₁ _ i hi => by
      rw [hnn] at hi
      have e : (arrV (zA z 0) (ln S a0) (fun j => .int (gI S 0 a0 j))).slots.getD ((0 : Int32).toNatClampNeg + i) .null = .int (gI S 0 a0 i) := by
        rw [show (0 : Int32).toNatClampNeg + i = i from Nat.zero_add i, Array.getD_eq_getD_getElem?, arrV_read _ _ (by omega)]
        rfl
      refine ⟨?_, ?_⟩
      · rw [e]
        rfl
      · rw [e]
        exact trivial)
    (g := F0 m pc ls [.int (Int32.ofNat n), .int 0, .ref a, .int 0, .ref a0]) rfl (by rw [C.2.2.1]; exact hl.1) (rest := []) rfl (by rw [C.2.1]; exact hd) hf (Nat.le_trans (show 2 * 0 + 0 + (nativeFrameWords "java/lang/System" "arraycopy" 5 + 11) ≤ 32 by decide +kernel) hlo)
  have e1 : copied (arrV (zA z 0) (ln S a0) (fun j => .int (gI S 0 a0 j))) (arrV (zA z 0) (ln S a) (fun j => .int (gI S 0 a j))) 0 0 (Int32.ofNat n) = arrV (zA z 0) (ln S a) (fun j => .int (va_cpy (fun j => gI S 0 a0 j) (fun j => gI S 0 a j) (0 : Int32).toNatClampNeg (0 : Int32).toNatClampNeg (Int32.ofNat n).toNatClampNeg j)) := va_copied (fun z => .int z) (zA z 0) (zA z 0) (fun j => gI S 0 a0 j) (fun j => gI S 0 a j) (by rw [hnn]; show 0 + n ≤ _; omega)
  rw [e1] at X' step
  have hlt : a < H.size := (Array.getElem?_eq_some_iff.mp hc1).1
  generalize hcv : arrV (zA z 0) (ln S a) (fun j => .int (va_cpy (fun j => gI S 0 a0 j) (fun j => gI S 0 a j) (0 : Int32).toNatClampNeg (0 : Int32).toNatClampNeg (Int32.ofNat n).toNatClampNeg j)) = cv at X' step
  have hheap : ((T.setVm vm').setCell a cv).heap = H.setIfInBounds a cv := by rw [← hT]; rfl
  have oq : ∀ q : Nat, q ≠ a → (H.setIfInBounds a cv)[q]? = H[q]? := fun q hq => by simp [Array.getElem?_setIfInBounds, Ne.symm hq]
  have ea : (H.setIfInBounds a cv)[a]? = some (arrV (zA z 0) (ln S a) (fun j => .int (if j < n then gI S 0 a0 j else gI S 0 a j))) := by
    rw [← hcv]
    simp only [Array.getElem?_setIfInBounds, hlt, if_true]
    congr 2
    funext j
    rw [hnn]
    show Value.int (va_cpy _ _ 0 0 n j) = _
    simp [va_cpy]
  have hSz : (H.setIfInBounds a cv).size = H.size := by simp
  obtain ⟨t, a1, b1⟩ := k (H.setIfInBounds a cv) _ ls cells slots hl (pic_cpA hP hk1 ea hSz oq) ⟨by rw [hSz]; exact hS.1, fun q r1 r2 => by
      rw [oq q (fun x => r2 (by rw [x]; exact pic_own hP (by rw [hk1]; decide)))]
      exact hS.2.1 q r1 r2, fun q hq => by
      rcases List.mem_append.mp hq with h | h
      · exact hS.2.2 q h
      · obtain ⟨w, -, hw⟩ := List.mem_map.mp h
        rw [← hw]
        exact pic_own hP (by rw [hk1]; decide)⟩ g1 g2 _ hheap X'
  exact ⟨t, step t a1, b1⟩
/-! texts -/
theorem G_gets (C : Cx p s m args meth c z cc nL ow ret nm) {Cn n d : String} {v : Value} {ix : Nat} (hZ : va_Z Cn n d v (own z) s s.heap) (w1 : Cond.fieldLink ow ix Cn n d ∈ gt) (hd : decode cc pc = .ok (.getstatic ix, 3)) (k : Go p l e R s m args below meth c z nL Q bc bs (pc + 3) lv (v :: st) S) : Go p l e R s m args below meth c z nL Q bc bs pc lv st S := fun H locs ls cells slots hl hP hS g1 g2 =>
  va_gets C.1 C.2.1 hZ hS C.2.2.2.1 (C.2.2.2.2.1 _ w1) (fun x h => h) hd (k H locs ls cells slots hl hP hS g1 g2)
theorem G_kget (C : Cx p s m args meth c z cc nL ow ret nm) {n d : String} {v : Value} {ix q : Nat} (hE : va_OF "java/lang/String" n d v q (own z) s s.heap) (w1 : Cond.fieldLink ow ix "java/lang/String" n d ∈ gt) (hd : decode cc pc = .ok (.getfield ix, 3)) (k : Go p l e R s m args below meth c z nL Q bc bs (pc + 3) lv (v :: st) S) : Go p l e R s m args below meth c z nL Q bc bs pc lv (.ref q :: st) S := fun H locs ls cells slots hl hP hS g1 g2 =>
  vk_getf C.1 C.2.1 hE hS C.2.2.2.1 (C.2.2.2.2.1 _ w1) (fun x h => h) hd (k H locs ls cells slots hl hP hS g1 g2)
theorem G_klen (C : Cx p s m args meth c z cc nL ow ret nm) {t N : Nat} {f : Nat → Value} {ty : FieldType} (hT : va_T ty t N f (own z) s s.heap) (hd : decode cc pc = .ok (.arraylength, 1)) (k : Go p l e R s m args below meth c z nL Q bc bs (pc + 1) lv (.int (Int32.ofNat N) :: st) S) : Go p l e R s m args below meth c z nL Q bc bs pc lv (.ref t :: st) S := fun H locs ls cells slots hl hP hS g1 g2 =>
  va_tlen C.1 C.2.1 hT hS rfl hd (k H locs ls cells slots hl hP hS g1 g2)
theorem G_kbald (C : Cx p s m args meth c z cc nL ow ret nm) {t N : Nat} {f : Nat → Value} {i : Int32} (hT : va_T .byte t N f (own z) s s.heap) (hi : vp_in i N) (hd : decode cc pc = .ok (.baload, 1)) (k : Go p l e R s m args below meth c z nL Q bc bs (pc + 1) lv (f i.toNatClampNeg :: st) S) : Go p l e R s m args below meth c z nL Q bc bs pc lv (.int i :: .ref t :: st) S := fun H locs ls cells slots hl hP hS g1 g2 =>
  va_tb C.1 C.2.1 hT hS hi rfl hd (k H locs ls cells slots hl hP hS g1 g2)
theorem G_i2c (C : Cx p s m args meth c z cc nL ow ret nm) {x : Int32} (hd : decode cc pc = .ok (.i2c, 1)) (k : Go p l e R s m args below meth c z nL Q bc bs (pc + 1) lv (.int (x.toUInt32 % 65536).toInt32 :: st) S) : Go p l e R s m args below meth c z nL Q bc bs pc lv (.int x :: st) S := fun H locs ls cells slots hl hP hS g1 g2 =>
  lv_i2c C.1 C.2.1 hd rfl (k H locs ls cells slots hl hP hS g1 g2)
theorem G_tret (C : Cx p s m args meth c z cc nL ow ret nm) {x : Int32} {ty : FieldType} {post : Option Value → Hp → Prop} (hr : ret = some ty) (hn : narrow ty (.int x) = .int x) (hd : decode cc pc = .ok (.ireturn, 1)) (hq : post (some (.int x)) S) : Go p l e R s m args below meth c z nL (MQ below (Qx z post) args s R.cells R.slots (own z)) bc bs pc lv [.int x] S := fun H locs ls cells slots hl hP hS h1 h2 => by
  refine W.widen (k := R.cells) (n := R.slots) (by omega) (by omega) ?_
  exact W.zret C.1 C.2.1 (by rw [C.2.2.2.2.2.2.2.2.1]; exact hr) hn (fun t ht _ => ⟨_, S, rfl, hq, by rw [ht]; exact hP, hS.F ht⟩) hS.2.2 hd C.2.2.2.2.2.2.2.1
theorem G_callVr {y : MethodName} {cd : ByteArray} {n2 : Nat} {rt : Option FieldType} {f loc mc ms a ix np : Nat} {As rest st0 : List Value} {post : Option Value → Hp → Prop} (C : Cx p s m args meth c z cc nL ow ret nm) (hrec : ∀ (H : Heap) (locs : List Loc), va_S (own z) s.heap H locs → ∃ cell : Cell, H[a]? = some cell ∧ cell.vm.isStatics = false ∧ s.vm.findClass y.cls = some cell.cls) (w1 : Cond.methodLink ow ix y ∈ gt) (w2 : Cond.instanceMethod y ∈ gt) (w3 : Cond.selects y.cls y y ∈ gt) (w4 : Cond.initialized y.cls ∈ gt) (w5 : Cond.code y cd n2 rt ∈ gt) (hy : dsc y np) (hm : Ct l z y cd n2 rt f loc mc ms (.ref a :: As) S post) (hnp : As.length = np) (hR : f + 1 ≤ R.frames ∧ 8 + (n2 + 11) + loc ≤ R.locals) (hst : st0 = As.reverse ++ .ref a :: rest) (hW : (rest.map fun v => v.category).sum ≤ 8) (hd : decode cc pc = .ok (.invokevirtual ix, 3))
    (k : ∀ (v : Option Value) (S' : Hp), post v S' → Go p l e R s m args below meth c z nL Q bc bs (pc + 3) lv (v.toList ++ rest) S') : Go p l e R s m args below meth c z nL Q (bc + mc) (bs + ms) pc lv st0 S := by
  refine G_run (av := (Value.ref a :: As).toArray) (fun H locs ls cells slots hl hP hS hf => ?_) k
  refine va_runV (Ts := gt) (C := y.cls) (As := As) ⟨C.1, C.2.1, C.2.2.1, C.2.2.2.1, C.2.2.2.2.1⟩ hm (cwV np C.2.2.2.2.1 (gt_in fun w hw => ?_) rfl rfl rfl ⟨rfl, hy⟩ hR) ⟨pc_blind, hrec H locs hS, pc_at C hP hS (.ref a :: As)⟩ rfl hnp hl.1 hst (lv_room hW) hd hf
  rcases List.mem_append.mp hw with h | h
  · simp only [List.mem_cons, List.not_mem_nil, or_false] at h
    rcases h with rfl | rfl | rfl | rfl
    · exact w1
    · exact w2
    · exact w3
    · exact w4
  · exact (mws_in w5 w h).1
theorem w_sv : Cond.fieldLink RJ0 9 "java/lang/String" "value" "[B" ∈ gt := gt_t 1149 (by decide +kernel) rfl
theorem w_sc : Cond.fieldLink RJ0 15 "java/lang/String" "coder" "B" ∈ gt := gt_t 1150 (by decide +kernel) rfl
theorem w_cst : Cond.fieldLink RJ0 38 "java/lang/String" "COMPACT_STRINGS" "Z" ∈ gt := gt_t 427 (by decide +kernel) rfl
theorem w_sio : Cond.fieldLink RJ0 1053 "jdk/internal/util/Preconditions" "SIOOBE_FORMATTER" "Ljava/util/function/BiFunction;" ∈ gt := gt_t 443 (by decide +kernel) rfl
theorem w_si : Cond.initialized RJ0 ∈ gt := gt_t 15 (by decide +kernel) rfl
theorem c_coder (l : Launch) (z : Zt) (i : Nat) (S : Hp) (hi : i < 4) : Ct l z yJ0_coder_7d493 cJ0_coder_7d493 1 (some .byte) 0 0 0 0 [.ref (zK z i)] S (pI S (fun x => x = 0)) := by
  refine Ct_ofF (by decide +kernel) (Nat.le_of_ble_eq_true rfl) ?_
  intro p e s m args below meth c C
  have C : Cx p s m args meth c z cJ0_coder_7d493 1 RJ0 (some .byte) "coder" := C
  have hs := C.2.2.2.2.2.1.2.2.2.2.2.1.1 i hi
  refine G_sub (lv' := [(0, .ref (zK z i))]) [0] rfl ?_
  refine G_gets (pc := 0) C C.2.2.2.2.2.1.2.2.2.2.2.2.2.2.1 w_cst dJ0_coder_7d493_0 ?_
  refine G_if_eq (pc := 3) C 13 dJ0_coder_7d493_3 (by decide) (fun hc => absurd hc (by decide)) (fun _ => ?_)
  refine G_aload_n (pc := 6) C 0 dJ0_coder_7d493_6 rfl rfl ?_
  refine G_kget (pc := 7) C hs.2.1 w_sc dJ0_coder_7d493_7 ?_
  refine G_goto (pc := 10) C 14 dJ0_coder_7d493_10 (by decide) ?_
  exact G_tret (pc := 14) C rfl rfl dJ0_coder_7d493_14 ⟨rfl, _, rfl, rfl⟩
theorem c_isLatin1 (l : Launch) (z : Zt) (i : Nat) (S : Hp) (hi : i < 4) : Ct l z yJ0_isLatin1_aae02 cJ0_isLatin1_aae02 1 (some .boolean) 0 0 0 0 [.ref (zK z i)] S (pI S (fun x => x = 1)) := by
  refine Ct_ofF (by decide +kernel) (Nat.le_of_ble_eq_true rfl) ?_
  intro p e s m args below meth c C
  have C : Cx p s m args meth c z cJ0_isLatin1_aae02 1 RJ0 (some .boolean) "isLatin1" := C
  have hs := C.2.2.2.2.2.1.2.2.2.2.2.1.1 i hi
  refine G_sub (lv' := [(0, .ref (zK z i))]) [0] rfl ?_
  refine G_gets (pc := 0) C C.2.2.2.2.2.1.2.2.2.2.2.2.2.2.1 w_cst dJ0_isLatin1_aae02_0 ?_
  refine G_if_eq (pc := 3) C 17 dJ0_isLatin1_aae02_3 (by decide) (fun hc => absurd hc (by decide)) (fun _ => ?_)
  refine G_aload_n (pc := 6) C 0 dJ0_isLatin1_aae02_6 rfl rfl ?_
  refine G_kget (pc := 7) C hs.2.1 w_sc dJ0_isLatin1_aae02_7 ?_
  refine G_if_ne (pc := 10) C 17 dJ0_isLatin1_aae02_10 (by decide) (fun hc => absurd rfl hc) (fun _ => ?_)
  refine G_iconst (pc := 13) C (v := 1) dJ0_isLatin1_aae02_13 (by decide) ?_
  refine G_goto (pc := 14) C 18 dJ0_isLatin1_aae02_14 (by decide) ?_
  exact G_zret (pc := 18) C rfl (by decide) dJ0_isLatin1_aae02_18 ⟨rfl, _, rfl, rfl⟩
theorem dsc_coder : dsc yJ0_coder_7d493 0 := ⟨by decide, by decide, by decide +kernel⟩
theorem dsc_isLatin1 : dsc yJ0_isLatin1_aae02 0 := ⟨by decide, by decide, by decide +kernel⟩
theorem dsc_slen : dsc yJ0_length_8abf5 0 := ⟨by decide, by decide, by decide +kernel⟩
theorem dsc_sch : dsc yJ0_charAt_5068e 1 := ⟨by decide, by decide, by decide +kernel⟩
theorem dsc_lch : dsc yJ1_charAt_3b067 2 := ⟨by decide, by decide, by decide +kernel⟩
theorem dsc_sck : dsc yJ0_checkIndex_df160 2 := ⟨by decide, by decide, by decide +kernel⟩
theorem dsc_pck : dsc yJ3_checkIndex_8e157 3 := ⟨by decide, by decide, by decide +kernel⟩
theorem tx_lt {i : Nat} (hi : i < 4) : txN.getD i 0 < 2 ^ 31 := by
  have : ∀ i, i < 4 → txN.getD i 0 < 2 ^ 31 := by decide
  exact this i hi
theorem c_String_length (l : Launch) (z : Zt) (i : Nat) (S : Hp) (hi : i < 4) : Ct l z yJ0_length_8abf5 cJ0_length_8abf5 1 (some .int) 1 20 0 0 [.ref (zK z i)] S (pI S (fun x => x = Int32.ofNat (txN.getD i 0))) := by
  refine Ct_ofF (by decide +kernel) (Nat.le_of_ble_eq_true rfl) ?_
  intro p e s m args below meth c C
  have C : Cx p s m args meth c z cJ0_length_8abf5 1 RJ0 (some .int) "length" := C
  have hE := C.2.2.2.2.2.1.2.2.2.2.2.1
  have hs := hE.1 i hi
  refine G_sub (lv' := [(0, .ref (zK z i))]) [0] rfl ?_
  refine G_aload_n (pc := 0) C 0 dJ0_length_8abf5_0 rfl rfl ?_
  refine G_kget (pc := 1) C hs.2.2.1 w_sv dJ0_length_8abf5_1 ?_
  refine G_klen (pc := 4) C hs.2.2.2 dJ0_length_8abf5_4 ?_
  refine G_aload_n (pc := 5) C 0 dJ0_length_8abf5_5 rfl rfl ?_
  refine G_callVr (pc := 6) (As := []) (rest := [.int (Int32.ofNat (txN.getD i 0))]) C (fun H locs hS => vk_recv hE hi hS) (gt_t 423 (by decide +kernel) rfl) (gt_t 424 (by decide +kernel) rfl) (gt_t 425 (by decide +kernel) rfl) w_si (gt_t 426 (by decide +kernel) rfl) dsc_coder (c_coder l z i S hi) rfl ⟨Nat.le_of_ble_eq_true rfl, Nat.le_of_ble_eq_true rfl⟩ rfl (Nat.le_of_ble_eq_true rfl) dJ0_length_8abf5_6 (fun v S' hp => ?_)
  obtain ⟨hS, x, rfl, rfl⟩ := hp
  subst S'
  refine G_ishr (pc := 9) C dJ0_length_8abf5_9 ?_
  exact G_iret (pc := 10) C rfl dJ0_length_8abf5_10 ⟨rfl, _, rfl, sc_shr0 (tx_lt hi)⟩
theorem c_pck (l : Launch) (z : Zt) (x n : Int32) (r : Option Nat) (S : Hp) (h0 : ¬ x < 0) (h1 : x < n) : Ct l z yJ3_checkIndex_8e157 cJ3_checkIndex_8e157 3 (some .int) 0 0 0 0 [.int x, .int n, va_rf r] S (pI S (fun y => y = x)) := by
  refine Ct_ofF (by decide +kernel) (by cases r <;> exact Nat.le_of_ble_eq_true rfl) ?_
  intro p e s m args below meth c C
  have C : Cx p s m args meth c z cJ3_checkIndex_8e157 3 RJ3 (some .int) "checkIndex" := C
  refine G_sub (lv' := [(0, .int x), (1, .int n)]) [0, 1] rfl ?_
  refine G_iload_n (pc := 0) C 0 dJ3_checkIndex_8e157_0 rfl rfl ?_
  refine G_if_lt (pc := 1) C 9 dJ3_checkIndex_8e157_1 (by decide) (fun hc => absurd hc h0) (fun _ => ?_)
  refine G_iload_n (pc := 4) C 0 dJ3_checkIndex_8e157_4 rfl rfl ?_
  refine G_iload_n (pc := 5) C 1 dJ3_checkIndex_8e157_5 rfl rfl ?_
  refine G_icmp_lt (pc := 6) C 16 dJ3_checkIndex_8e157_6 (by decide) (fun _ => ?_) (fun hc => absurd h1 hc)
  refine G_iload_n (pc := 16) C 0 dJ3_checkIndex_8e157_16 rfl rfl ?_
  exact G_iret (pc := 17) C rfl dJ3_checkIndex_8e157_17 ⟨rfl, _, rfl, rfl⟩
theorem c_sck (l : Launch) (z : Zt) (x n : Int32) (S : Hp) (h0 : ¬ x < 0) (h1 : x < n) : Ct l z yJ0_checkIndex_df160 cJ0_checkIndex_df160 2 none 1 22 0 0 [.int x, .int n] S (wV (fun S' => S' = S)) := by
  refine Ct_ofF (by decide +kernel) (Nat.le_of_ble_eq_true rfl) ?_
  intro p e s m args below meth c C
  have C : Cx p s m args meth c z cJ0_checkIndex_df160 2 RJ0 none "checkIndex" := C
  refine G_sub (lv' := [(0, .int x), (1, .int n)]) [0, 1] rfl ?_
  refine G_iload_n (pc := 0) C 0 dJ0_checkIndex_df160_0 rfl rfl ?_
  refine G_iload_n (pc := 1) C 1 dJ0_checkIndex_df160_1 rfl rfl ?_
  obtain ⟨r, hZ⟩ : ∃ r : Option Nat, va_Z "jdk/internal/util/Preconditions" "SIOOBE_FORMATTER" "Ljava/util/function/BiFunction;" (va_rf r) (own z) s s.heap := by
    rcases C.2.2.2.2.2.1.2.2.2.2.2.2.2.2.2 with h | ⟨t, h⟩
    · exact ⟨none, h⟩
    · exact ⟨some t, h⟩
  refine G_gets (pc := 2) C hZ w_sio dJ0_checkIndex_df160_2 ?_
  refine G_callS (pc := 5) (As := [.int x, .int n, va_rf r]) (rest := []) C (gt_t 445 (by decide +kernel) rfl) (gt_t 446 (by decide +kernel) rfl) (gt_t 17 (by decide +kernel) rfl) (gt_t 447 (by decide +kernel) rfl) dsc_pck (c_pck l z x n r S h0 h1) rfl ⟨Nat.le_of_ble_eq_true rfl, Nat.le_of_ble_eq_true rfl⟩ rfl (Nat.le_of_ble_eq_true rfl) dJ0_checkIndex_df160_5 (fun v S' hp => ?_)
  obtain ⟨hS, w, rfl, rfl⟩ := hp
  subst S'
  refine G_pop (pc := 8) C dJ0_checkIndex_df160_8 rfl ?_
  exact G_vret (pc := 9) C rfl dJ0_checkIndex_df160_9 ⟨rfl, rfl⟩
theorem tx_ch {i k : Nat} (hi : i < 4) (hk : k < txN.getD i 0) : ((((txB.getD i []).getD k 0) &&& 255).toUInt32 % 65536).toInt32 = (txB.getD i []).getD k 0 ∧ narrow .char (.int ((txB.getD i []).getD k 0)) = .int ((txB.getD i []).getD k 0) := by
  have h : ∀ i, i < 4 → ∀ k, k < txN.getD i 0 → ((((txB.getD i []).getD k 0) &&& 255).toUInt32 % 65536).toInt32 = (txB.getD i []).getD k 0 ∧ ((txB.getD i []).getD k 0) &&& 255 = (txB.getD i []).getD k 0 := by decide +kernel
  refine ⟨(h i hi k hk).1, ?_⟩
  have h2 := sc_nar ((txB.getD i []).getD k 0)
  rw [(h i hi k hk).2] at h2
  exact h2
theorem c_lch (l : Launch) (z : Zt) (i : Nat) (x : Int32) (S : Hp) (hi : i < 4) (hx : vp_in x (txN.getD i 0)) : Ct l z yJ1_charAt_3b067 cJ1_charAt_3b067 2 (some .char) 2 43 0 0 [.ref (zV z i), .int x] S (pI S (fun y => y = (txB.getD i []).getD x.toNatClampNeg 0)) := by
  refine Ct_ofF (by decide +kernel) (Nat.le_of_ble_eq_true rfl) ?_
  intro p e s m args below meth c C
  have C : Cx p s m args meth c z cJ1_charAt_3b067 2 RJ1 (some .char) "charAt" := C
  have hs := C.2.2.2.2.2.1.2.2.2.2.2.1.1 i hi
  have h0 : ¬ x < 0 := fun q => hx (Or.inl q)
  have hlt : x.toNatClampNeg < txN.getD i 0 := Nat.not_le.mp fun q => hx (Or.inr q)
  have h1 : x < Int32.ofNat (txN.getD i 0) := by
    obtain ⟨j, hj, rfl⟩ := nI_of h0
    rw [nI_clamp hj] at hlt
    exact nI_lt hlt (tx_lt hi)
  refine G_sub (lv' := [(0, .ref (zV z i)), (1, .int x)]) [0, 1] rfl ?_
  refine G_iload_n (pc := 0) C 1 dJ1_charAt_3b067_0 rfl rfl ?_
  refine G_aload_n (pc := 1) C 0 dJ1_charAt_3b067_1 rfl rfl ?_
  refine G_klen (pc := 2) C hs.2.2.2 dJ1_charAt_3b067_2 ?_
  refine G_callS (pc := 3) (As := [.int x, .int (Int32.ofNat (txN.getD i 0))]) (rest := []) C (gt_t 440 (by decide +kernel) rfl) (gt_t 441 (by decide +kernel) rfl) w_si (gt_t 442 (by decide +kernel) rfl) dsc_sck (c_sck l z x _ S h0 h1) rfl ⟨Nat.le_of_ble_eq_true rfl, Nat.le_of_ble_eq_true rfl⟩ rfl (Nat.le_of_ble_eq_true rfl) dJ1_charAt_3b067_3 (fun v S' hp => ?_)
  obtain ⟨rfl, hS⟩ := hp
  subst S'
  refine G_aload_n (pc := 6) C 0 dJ1_charAt_3b067_6 rfl rfl ?_
  refine G_iload_n (pc := 7) C 1 dJ1_charAt_3b067_7 rfl rfl ?_
  refine G_kbald (pc := 8) C hs.2.2.2 hx dJ1_charAt_3b067_8 ?_
  refine G_sipush (pc := 9) C (v := 255) dJ1_charAt_3b067_9 (by decide) ?_
  refine G_iand (pc := 12) C dJ1_charAt_3b067_12 ?_
  refine G_i2c (pc := 13) C dJ1_charAt_3b067_13 ?_
  rw [(tx_ch hi hlt).1]
  exact G_tret (pc := 14) C rfl (tx_ch hi hlt).2 dJ1_charAt_3b067_14 ⟨rfl, _, rfl, rfl⟩
theorem c_String_charAt (l : Launch) (z : Zt) (i : Nat) (x : Int32) (S : Hp) (hi : i < 4) (hx : vp_in x (txN.getD i 0)) : Ct l z yJ0_charAt_5068e cJ0_charAt_5068e 2 (some .char) 3 64 0 0 [.ref (zK z i), .int x] S (pI S (fun y => y = (txB.getD i []).getD x.toNatClampNeg 0)) := by
  refine Ct_ofF (by decide +kernel) (Nat.le_of_ble_eq_true rfl) ?_
  intro p e s m args below meth c C
  have C : Cx p s m args meth c z cJ0_charAt_5068e 2 RJ0 (some .char) "charAt" := C
  have hE := C.2.2.2.2.2.1.2.2.2.2.2.1
  have hs := hE.1 i hi
  have hlt : x.toNatClampNeg < txN.getD i 0 := Nat.not_le.mp fun q => hx (Or.inr q)
  refine G_sub (lv' := [(0, .ref (zK z i)), (1, .int x)]) [0, 1] rfl ?_
  refine G_aload_n (pc := 0) C 0 dJ0_charAt_5068e_0 rfl rfl ?_
  refine G_callVr (pc := 1) (As := []) (rest := []) C (fun H locs hS => vk_recv hE hi hS) (gt_t 433 (by decide +kernel) rfl) (gt_t 434 (by decide +kernel) rfl) (gt_t 435 (by decide +kernel) rfl) w_si (gt_t 436 (by decide +kernel) rfl) dsc_isLatin1 (c_isLatin1 l z i S hi) rfl ⟨Nat.le_of_ble_eq_true rfl, Nat.le_of_ble_eq_true rfl⟩ rfl (Nat.le_of_ble_eq_true rfl) dJ0_charAt_5068e_1 (fun v S' hp => ?_)
  obtain ⟨hS, w, rfl, rfl⟩ := hp
  subst S'
  refine G_if_eq (pc := 4) C 16 dJ0_charAt_5068e_4 (by decide) (fun hc => absurd hc (by decide)) (fun _ => ?_)
  refine G_aload_n (pc := 7) C 0 dJ0_charAt_5068e_7 rfl rfl ?_
  refine G_kget (pc := 8) C hs.2.2.1 w_sv dJ0_charAt_5068e_8 ?_
  refine G_iload_n (pc := 11) C 1 dJ0_charAt_5068e_11 rfl rfl ?_
  refine G_callS (pc := 12) (As := [.ref (zV z i), .int x]) (rest := []) C (gt_t 437 (by decide +kernel) rfl) (gt_t 438 (by decide +kernel) rfl) (gt_t 16 (by decide +kernel) rfl) (gt_t 439 (by decide +kernel) rfl) dsc_lch (c_lch l z i x S hi hx) rfl ⟨Nat.le_of_ble_eq_true rfl, Nat.le_of_ble_eq_true rfl⟩ rfl (Nat.le_of_ble_eq_true rfl) dJ0_charAt_5068e_12 (fun v S' hp => ?_)
  obtain ⟨hS, w, rfl, rfl⟩ := hp
  subst S'
  exact G_tret (pc := 15) C rfl (tx_ch hi hlt).2 dJ0_charAt_5068e_15 ⟨rfl, _, rfl, rfl⟩
theorem cl_RX10_19 (C : Cx p s m args meth c z cc nL RX10 ret nm) {i : Nat} {rest : List Value} (hm : Ct l z yJ0_length_8abf5 cJ0_length_8abf5 1 (some .int) 1 20 0 0 [.ref (zK z i)] S (pI S (fun x => x = Int32.ofNat (txN.getD i 0)))) (hR : 1 + 1 ≤ R.frames ∧ 8 + (1 + 11) + 20 ≤ R.locals) (hi : i < 4) (hd : decode cc pc = .ok (.invokevirtual 19, 3)) (hW : (rest.map fun v => v.category).sum ≤ 8) (k : Go p l e R s m args below meth c z nL Q bc bs (pc + 3) lv (.int (Int32.ofNat (txN.getD i 0)) :: rest) S) : Go p l e R s m args below meth c z nL Q bc bs pc lv (.ref (zK z i) :: rest) S := by
  refine G_callVr (As := []) (rest := rest) C (fun H locs hS => vk_recv C.2.2.2.2.2.1.2.2.2.2.2.1 hi hS) (gt_t 419 (by decide +kernel) rfl) (gt_t 420 (by decide +kernel) rfl) (gt_t 421 (by decide +kernel) rfl) w_si (gt_t 422 (by decide +kernel) rfl) dsc_slen hm rfl hR rfl hW hd (fun v S' hp => ?_)
  obtain ⟨hS, w, rfl, rfl⟩ := hp
  subst S'
  exact k
theorem cl_RX10_24 (C : Cx p s m args meth c z cc nL RX10 ret nm) {i : Nat} {x : Int32} {rest : List Value} (hm : Ct l z yJ0_charAt_5068e cJ0_charAt_5068e 2 (some .char) 3 64 0 0 [.ref (zK z i), .int x] S (pI S (fun y => y = (txB.getD i []).getD x.toNatClampNeg 0))) (hR : 3 + 1 ≤ R.frames ∧ 8 + (2 + 11) + 64 ≤ R.locals) (hi : i < 4) (hd : decode cc pc = .ok (.invokevirtual 24, 3)) (hW : (rest.map fun v => v.category).sum ≤ 8) (k : Go p l e R s m args below meth c z nL Q bc bs (pc + 3) lv (.int ((txB.getD i []).getD x.toNatClampNeg 0) :: rest) S) : Go p l e R s m args below meth c z nL Q bc bs pc lv (.int x :: .ref (zK z i) :: rest) S := by
  refine G_callVr (As := [.int x]) (rest := rest) C (fun H locs hS => vk_recv C.2.2.2.2.2.1.2.2.2.2.2.1 hi hS) (gt_t 429 (by decide +kernel) rfl) (gt_t 430 (by decide +kernel) rfl) (gt_t 431 (by decide +kernel) rfl) w_si (gt_t 432 (by decide +kernel) rfl) dsc_sch hm rfl hR rfl hW hd (fun v S' hp => ?_)
  obtain ⟨hS, w, rfl, rfl⟩ := hp
  subst S'
  exact k
end SPECIAL
