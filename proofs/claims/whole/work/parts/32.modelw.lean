/-! ===== a whole array replaced ===== -/
def setA (S : Hp) (a : Nat) (g : Nat → Int32) : Hp := (S.1, S.2.1, fun f' a' i' => if f' = 0 ∧ a' = a then g i' else S.2.2.1 f' a' i', S.2.2.2.1, S.2.2.2.2)
theorem kd_setA (S : Hp) (a : Nat) (g : Nat → Int32) (b : Nat) : kd (setA S a g) b = kd S b := rfl
theorem ln_setA (S : Hp) (a : Nat) (g : Nat → Int32) (b : Nat) : ln (setA S a g) b = ln S b := rfl
theorem sz_setA (S : Hp) (a : Nat) (g : Nat → Int32) : sz (setA S a g) = sz S := rfl
theorem gR_setA (S : Hp) (a : Nat) (g : Nat → Int32) (f' a' i' : Nat) : gR (setA S a g) f' a' i' = gR S f' a' i' := rfl
theorem gI_setA (S : Hp) (a : Nat) (g : Nat → Int32) (f' a' i' : Nat) : gI (setA S a g) f' a' i' = if f' = 0 ∧ a' = a then g i' else gI S f' a' i' := rfl
theorem setA_at (S : Hp) (a : Nat) (g : Nat → Int32) (i : Nat) : gI (setA S a g) 0 a i = g i := by simp [gI_setA]
theorem setA_sI (S : Hp) (a : Nat) (g : Nat → Int32) (i : Nat) (v : Int32) : sI (setA S a g) 0 a i v = setA S a (va_up g i v) := by
  unfold sI setA up3 va_up
  congr 3
  funext f' a' i'
  by_cases h : f' = 0 ∧ a' = a
  · obtain ⟨rfl, rfl⟩ := h
    by_cases hi : i' = i <;> simp [hi]
  · have h2 : ¬ (f' = 0 ∧ a' = a ∧ i' = i) := fun q => h ⟨q.1, q.2.1⟩
    simp only [if_neg h2, if_neg h]
theorem setA_self (S : Hp) (a : Nat) : setA S a (gI S 0 a) = S := by
  obtain ⟨s1, s2, s3, s4, s5⟩ := S
  unfold setA gI
  congr 3
  funext f' a' i'
  by_cases h : f' = 0 ∧ a' = a
  · rw [if_pos h, h.1, h.2]
  · rw [if_neg h]
/-! ===== what stays outside the reference's cells ===== -/
def Sm (S S' : Hp) (a : Nat) : Prop := kd S' a = kd S a ∧ ln S' a = ln S a ∧ (∀ f i, gI S' f a i = gI S f a i) ∧ ∀ f i, gR S' f a i = gR S f a i
def SO (mo : Nat) (S S' : Hp) : Prop := sz S' = sz S ∧ (∀ a, kd S' a = kd S a ∧ ln S' a = ln S a) ∧ ∀ a, (a < mo ∨ mo + 7 < a) → Sm S S' a
theorem Sm_rf (S : Hp) (a : Nat) : Sm S S a := ⟨rfl, rfl, fun _ _ => rfl, fun _ _ => rfl⟩
theorem Sm_tr {S S' S'' : Hp} {a : Nat} (h : Sm S S' a) (h' : Sm S' S'' a) : Sm S S'' a := ⟨h'.1.trans h.1, h'.2.1.trans h.2.1, fun f i => (h'.2.2.1 f i).trans (h.2.2.1 f i), fun f i => (h'.2.2.2 f i).trans (h.2.2.2 f i)⟩
theorem SO_rf (mo : Nat) (S : Hp) : SO mo S S := ⟨rfl, fun _ => ⟨rfl, rfl⟩, fun a _ => Sm_rf S a⟩
theorem SO_tr {mo : Nat} {S S' S'' : Hp} (h : SO mo S S') (h' : SO mo S' S'') : SO mo S S'' := ⟨h'.1.trans h.1, fun a => ⟨(h'.2.1 a).1.trans (h.2.1 a).1, (h'.2.1 a).2.trans (h.2.1 a).2⟩, fun a ha => Sm_tr (h.2.2 a ha) (h'.2.2 a ha)⟩
theorem SO_sI {mo : Nat} {S : Hp} {f a i : Nat} {v : Int32} (h : mo ≤ a ∧ a ≤ mo + 7) : SO mo S (sI S f a i v) := ⟨rfl, fun _ => ⟨rfl, rfl⟩, fun b hb => ⟨rfl, rfl, fun f' i' => by rw [gI_sI, if_neg (fun q => by have := q.2.1; omega)], fun _ _ => rfl⟩⟩
theorem SO_setA {mo : Nat} {S : Hp} {a : Nat} {g : Nat → Int32} (h : mo ≤ a ∧ a ≤ mo + 7) : SO mo S (setA S a g) := ⟨rfl, fun _ => ⟨rfl, rfl⟩, fun b hb => ⟨rfl, rfl, fun f' i' => by rw [gI_setA, if_neg (fun q => by have := q.2; omega)], fun _ _ => rfl⟩⟩
/-! ===== the state: the row now, the rows before, the text ===== -/
abbrev Sg : Type := (Nat → Nat) × List (Nat → Nat) × (Nat → Nat) × Nat
def wdT (i : Nat) : Nat := ([97, 108, 108, 0, 0, 0, 0, 112, 97, 99, 107, 101, 116, 115, 114, 111, 111, 109, 0, 0, 0, 112, 97, 114, 116, 0, 0, 0] : List Nat).getD i 0
def MS (S : Hp) (mo : Nat) (σ : Sg) : Prop := MK S mo ∧ MR S mo σ.1 ∧ (gI S 194 mo 0 = nI σ.2.1.length ∧ σ.2.1.length ≤ 8 ∧ ∀ j u, σ.2.1[j]? = some u → ∀ k, k < 770 → gI S 0 (mo + 1) (770 * (σ.2.1.length - j) + k) = nI (u k)) ∧ (gI S 196 mo 0 = nI σ.2.2.2 ∧ σ.2.2.2 ≤ 200 ∧ ∀ i, i < σ.2.2.2 → gI S 0 (mo + 2) i = nI (σ.2.2.1 i) ∧ σ.2.2.1 i ≤ 255) ∧ (∀ i, i < 28 → gI S 0 (mo + 4) i = nI (wdT i))
def push (σ : Sg) (q : Nat → Nat) : Sg := (q, (σ.1 :: σ.2.1).take 8, σ.2.2)
section MWRITE
variable {S : Hp} {mo : Nat} {σ : Sg}
theorem MK_setA {a : Nat} {g : Nat → Int32} (h : MK S mo) : MK (setA S a g) mo := h
theorem MK_sI {f a i : Nat} {v : Int32} (h : MK S mo) : MK (sI S f a i v) mo := h
/-- what copying so many places leaves -/
def cpF (g : Nat → Int32) (a b i : Nat) : Nat → Int32 := fun j => if b ≤ j ∧ j < b + i then g (a + (j - b)) else g j
theorem cpF_0 (g : Nat → Int32) (a b : Nat) : cpF g a b 0 = g := by
  funext j
  unfold cpF
  rw [if_neg (by omega)]
theorem cpF_up (g : Nat → Int32) (a b i : Nat) (h : a + i < b ∨ b ≤ a) : va_up (cpF g a b i) (b + i) (cpF g a b i (a + i)) = cpF g a b (i + 1) := by
  funext j
  unfold va_up cpF
  by_cases hj : j = b + i
  · subst hj
    rw [if_pos rfl, if_neg (by omega), if_pos (by omega)]
    congr 1
    omega
  · rw [if_neg hj]
    by_cases h3 : b ≤ j ∧ j < b + i
    · rw [if_pos h3, if_pos (by omega)]
    · rw [if_neg h3, if_neg (by omega)]
/-- copyRow: from a on to b on, apart -/
theorem m_copyRow {Q : Hp → Prop} {a b : Nat} (hM : MK S mo) (ha : a + 770 ≤ 6930) (hb : b + 770 ≤ 6930) (hab : a + 770 ≤ b ∨ b + 770 ≤ a) (h : Q (setA S (mo + 1) (cpF (gI S 0 (mo + 1)) a b 770))) : wp_X12_copyRow mo (nI a) (nI b) S Q := by
  obtain ⟨k0, ⟨r1, k1, l1⟩, -⟩ := id hM
  have key := Lp_for (B := fun K y => wb_X12_copyRow_2 (fun w0 w1 => K (w0, w1)) Q mo (nI a) (nI b) y.1 y.2) (fun i => (nI i, setA S (mo + 1) (cpF (gI S 0 (mo + 1)) a b i))) 770 (fun i hi K hK => ?_) (fun K => ?_) (i := 0) (by omega)
  · rw [cpF_0, setA_self] at key
    exact key
  · refine ⟨fun hc => ?_, fun _ => ⟨k0, k0, _, r1, k1, ?_, k1, ?_, ?_⟩⟩
    · rw [li_770, nI_leI (by omega) (by omega)] at hc
      omega
    · rw [nI_add, ln_setA, l1]
      exact vp_li (by omega) (by omega)
    · rw [nI_add, ln_setA, l1]
      exact vp_li (by omega) (by omega)
    · rintro _ rfl _ rfl
      rw [nI_add, nI_add, nI_clamp (by omega), nI_clamp (by omega), setA_at, setA_sI, nI_1, cpF_up _ _ _ _ (by omega)]
      exact hK
  · exact ⟨fun _ => h, fun hc => absurd (nI_le (Nat.le_refl 770) (by omega)) hc⟩
/-- the end of notes: u1 rows before lie in g, in their places -/
theorem m_notes63 {Q : Hp → Prop} {g : Nat → Int32} {u u1 x : Nat} (hM : MK S mo) (hu : gI S 194 mo 0 = nI u) (hx : x ≤ u) (hu1 : u - x = u1) (hu7 : u1 ≤ 7) (h : Q (sI (setA (sI (setA S (mo + 1) g) 194 mo 0 (nI u1)) (mo + 1) (cpF g 0 (770 + 770 * u1) 770)) 194 mo 0 (nI (u1 + 1)))) : wp_X12_notes_63 Q mo (nI x) (nI u) mo (setA S (mo + 1) g) := by
  refine ⟨hM.1, ?_⟩
  rintro _ rfl
  rw [pk_sub hx, hu1]
  refine ⟨hM.1, hM.1, ?_⟩
  have e2 : gI (sI (setA S (mo + 1) g) 194 mo 0 (nI u1)) 194 mo 0 = nI u1 := by simp [gI_sI]
  rw [e2, li_0, li_770, pk_mul, nI_add]
  refine m_copyRow (S := sI (setA S (mo + 1) g) 194 mo 0 (nI u1)) hM (by omega) (by omega) (Or.inl (by omega)) ⟨hM.1, hM.1, ?_⟩
  rintro _ rfl
  have e3 : gI (sI (setA S (mo + 1) g) 194 mo 0 (nI u1)) 0 (mo + 1) = g := by
    funext j
    simp [gI_sI, gI_setA]
  have e4 : ∀ g', gI (setA (sI (setA S (mo + 1) g) 194 mo 0 (nI u1)) (mo + 1) g') 194 mo 0 = nI u1 := fun g' => by simp [gI_sI, gI_setA]
  rw [e3, e4, nI_1]
  exact h
theorem m_notes2 {Q : Hp → Prop} {g : Nat → Int32} (hM : MK S mo) (hu : gI S 194 mo 0 = nI 8) (h : wp_X12_notes_44 Q mo (setA S (mo + 1) (cpF g 1540 770 5390))) (hg : gI S 0 (mo + 1) = g) : wp_X12_notes mo S Q := by
  obtain ⟨k0, ⟨r1, k1, l1⟩, -⟩ := id hM
  have key := Lp_for (B := fun K y => wb_X12_notes_2 (fun w0 w1 => K (w0, w1)) Q mo y.1 y.2) (fun i => (nI i, setA S (mo + 1) (cpF g 1540 770 i))) 5390 (fun i hi K hK => ?_) (fun K => ?_) (i := 0) (by omega)
  · rw [cpF_0, ← hg, setA_self] at key
    exact key
  · refine ⟨fun hc => ?_, fun _ => ⟨k0, fun hc => absurd hu hc, fun _ => ⟨k0, k0, _, r1, k1, ?_, k1, ?_, ?_⟩⟩⟩
    · rw [li_5390, nI_leI (by omega) (by omega)] at hc
      omega
    · rw [li_1540, nI_add, ln_setA, l1]
      exact vp_li (by omega) (by omega)
    · rw [li_770, nI_add, ln_setA, l1]
      exact vp_li (by omega) (by omega)
    · rintro _ rfl _ rfl
      rw [li_770, li_1540, nI_add, nI_add, nI_clamp (by omega), nI_clamp (by omega), setA_at, setA_sI, nI_1, cpF_up _ _ _ _ (by omega)]
      exact hK
  · exact ⟨fun _ => h, fun hc => absurd (nI_le (Nat.le_refl 5390) (by omega)) hc⟩
/-- notes: the row now becomes the latest of those before -/
theorem M_notes {Q : Hp → Prop} (hS : MS S mo σ) (h : ∀ S', MS S' mo (push σ σ.1) → SO mo S S' → Q S') : wp_X12_notes mo S Q := by
  obtain ⟨hM, hR, ⟨hu, hu8, hus⟩, ht, hw⟩ := hS
  obtain ⟨k0, ⟨r1, k1, l1⟩, -⟩ := id hM
  obtain ⟨q, us, tx⟩ := σ
  dsimp only at hR hu hu8 hus ht
  -- the state behind: u1 rows before in g1
  have fin : ∀ (g1 : Nat → Int32) (u1 : Nat), u1 ≤ 7 → u1 + 1 = (q :: us).length ∨ (us.length = 8 ∧ u1 = 7) → (∀ i, i < 770 → g1 i = gI S 0 (mo + 1) i) → (∀ j v, j < u1 → us[j]? = some v → ∀ k, k < 770 → g1 (770 * (u1 - j) + k) = nI (v k)) → Q (sI (setA (sI (setA S (mo + 1) g1) 194 mo 0 (nI u1)) (mo + 1) (cpF g1 0 (770 + 770 * u1) 770)) 194 mo 0 (nI (u1 + 1))) := by
    intro g1 u1 h7 hl h0 hr
    have hlen : ((q :: us).take 8).length = u1 + 1 := by
      rw [List.length_take]
      rcases hl with hl | hl
      · omega
      · rw [List.length_cons]
        omega
    refine h _ ⟨hM, fun i hi => ?_, ⟨?_, ?_, fun j v hj k hk => ?_⟩, ⟨?_, ht.2.1, fun i hi => ?_⟩, fun i hi => ?_⟩ ?_
    · have e : gI (sI (setA (sI (setA S (mo + 1) g1) 194 mo 0 (nI u1)) (mo + 1) (cpF g1 0 (770 + 770 * u1) 770)) 194 mo 0 (nI (u1 + 1))) 0 (mo + 1) i = cpF g1 0 (770 + 770 * u1) 770 i := by simp [gI_sI, gI_setA]
      rw [e]
      unfold cpF
      rw [if_neg (by omega), h0 i hi]
      exact hR i hi
    · show gI _ 194 mo 0 = nI ((q :: us).take 8).length
      rw [hlen]
      simp [gI_sI]
    · show ((q :: us).take 8).length ≤ 8
      omega
    · have hj' : ((q :: us).take 8)[j]? = some v := hj
      have hjl : j < u1 + 1 := by rw [← hlen]; exact (List.getElem?_eq_some_iff.mp hj').1
      have e : gI (sI (setA (sI (setA S (mo + 1) g1) 194 mo 0 (nI u1)) (mo + 1) (cpF g1 0 (770 + 770 * u1) 770)) 194 mo 0 (nI (u1 + 1))) 0 (mo + 1) (770 * (((q :: us).take 8).length - j) + k) = cpF g1 0 (770 + 770 * u1) 770 (770 * (u1 + 1 - j) + k) := by rw [hlen]; simp [gI_sI, gI_setA]
      refine e.trans ?_
      rw [List.getElem?_take_of_lt (by omega)] at hj'
      unfold cpF
      cases j with
      | zero =>
        cases hj'
        rw [if_pos (by omega), show 0 + (770 * (u1 + 1 - 0) + k - (770 + 770 * u1)) = k by omega, h0 k hk]
        exact hR k hk
      | succ j =>
        rw [if_neg (by omega), show 770 * (u1 + 1 - (j + 1)) + k = 770 * (u1 - j) + k by omega]
        exact hr j v (by omega) hj' k hk
    · have e : gI (sI (setA (sI (setA S (mo + 1) g1) 194 mo 0 (nI u1)) (mo + 1) (cpF g1 0 (770 + 770 * u1) 770)) 194 mo 0 (nI (u1 + 1))) 196 mo 0 = gI S 196 mo 0 := by simp [gI_sI, gI_setA]
      exact e.trans ht.1
    · have e : gI (sI (setA (sI (setA S (mo + 1) g1) 194 mo 0 (nI u1)) (mo + 1) (cpF g1 0 (770 + 770 * u1) 770)) 194 mo 0 (nI (u1 + 1))) 0 (mo + 2) i = gI S 0 (mo + 2) i := by simp [gI_sI, gI_setA]
      exact ⟨e.trans (ht.2.2 i hi).1, (ht.2.2 i hi).2⟩
    · have e : gI (sI (setA (sI (setA S (mo + 1) g1) 194 mo 0 (nI u1)) (mo + 1) (cpF g1 0 (770 + 770 * u1) 770)) 194 mo 0 (nI (u1 + 1))) 0 (mo + 4) i = gI S 0 (mo + 4) i := by simp [gI_sI, gI_setA]
      exact e.trans (hw i hi)
    · exact SO_tr (SO_setA ⟨by omega, by omega⟩) (SO_tr (SO_sI ⟨by omega, by omega⟩) (SO_tr (SO_setA ⟨by omega, by omega⟩) (SO_sI ⟨by omega, by omega⟩)))
  by_cases h8 : us.length = 8
  · rw [h8] at hu hus
    refine m_notes2 hM hu ?_ rfl
    have e : gI (setA S (mo + 1) (cpF (gI S 0 (mo + 1)) 1540 770 5390)) 194 mo 0 = nI 8 := by simp [gI_setA, hu]
    refine ⟨hM.1, hM.1, fun hc => absurd e hc, fun _ => ?_⟩
    rw [e, li_1]
    refine m_notes63 hM hu (by omega) rfl (by omega) (fin _ 7 (by omega) (Or.inr ⟨h8, rfl⟩) (fun i hi => ?_) (fun j v hj hv k hk => ?_))
    · unfold cpF
      rw [if_neg (by omega)]
    · unfold cpF
      rw [if_pos (by omega), show 1540 + (770 * (7 - j) + k - 770) = 770 * (8 - j) + k by omega]
      exact hus j v hv k hk
  · have e0 : wp_X12_notes_44 Q mo (setA S (mo + 1) (gI S 0 (mo + 1))) := by
      rw [setA_self]
      refine ⟨hM.1, hM.1, fun _ => ?_, fun hc => ?_⟩
      · rw [hu, li_0]
        have := m_notes63 (Q := Q) (S := S) (g := gI S 0 (mo + 1)) (u := us.length) (u1 := us.length) (x := 0) hM hu (by omega) (by omega) (by omega) (fin _ us.length (by omega) (Or.inl (by rw [List.length_cons])) (fun _ _ => rfl) (fun j v _ hv k hk => hus j v hv k hk))
        rw [setA_self] at this
        exact this
      · rw [hu, li_8, nI_eq (by omega) (by omega)] at hc
        omega
    rw [setA_self] at e0
    refine Lp_of (fun n y => n = 0 ∧ y = (nI 0, S)) (fun n y hy K hK => ?_) (n := 0) ⟨rfl, rfl⟩
    obtain ⟨-, rfl⟩ := hy
    refine ⟨fun _ => e0, fun _ => ⟨k0, fun _ => e0, fun hc => ?_⟩⟩
    dsimp only at hc
    rw [hu, li_8, nI_eq (by omega) (by omega)] at hc
    omega
end MWRITE
