section MOPS3
variable {S : Hp} {mo : Nat} {σ : Sg} {q : Nat → Nat}
theorem M_undo {Q : Int32 → Hp → Prop} (hS : MS S mo σ) (h : ∀ S', MS S' mo (oUndo σ).2 → SO mo S S' → Q (oUndo σ).1 S') : wp_X12_undo mo S Q := by
  obtain ⟨hM, hR, ⟨hu, hu8, hus⟩, ⟨ht1, ht2, ht3⟩, hw⟩ := id hS
  obtain ⟨q, us, tx⟩ := σ
  cases us with
  | nil => exact ⟨hM.1, fun hc => absurd hu hc, fun _ => h S hS (SO_rf mo S)⟩
  | cons u us =>
    dsimp only at hR hu hu8 hus ht1 ht2 ht3
    rw [List.length_cons] at hu hu8
    refine ⟨hM.1, fun _ => ⟨hM.1, hM.1, ?_⟩, fun hc => ?_⟩
    · rintro _ rfl
      refine ⟨hM.1, hM.1, ?_⟩
      rw [hu, li_1, pk_sub (by omega), Nat.add_sub_cancel]
      have e1 : gI (sI S 194 mo 0 (nI us.length)) 194 mo 0 = nI us.length := by simp [gI_sI]
      rw [e1, li_770, li_0, pk_mul, nI_add]
      refine m_copyRow (S := sI S 194 mo 0 (nI us.length)) hM (by omega) (by omega) (Or.inr (by omega)) ⟨hM.1, ?_⟩
      have e2 : ∀ g, gI (setA (sI S 194 mo 0 (nI us.length)) (mo + 1) g) 194 mo 0 = nI us.length := fun g => by simp [gI_setA, gI_sI]
      have e3 : gI (sI S 194 mo 0 (nI us.length)) 0 (mo + 1) = gI S 0 (mo + 1) := by
        funext j
        simp [gI_sI]
      rw [e2, e3]
      refine h _ ⟨hM, fun i hi => ?_, ⟨e2 _, by show us.length ≤ 8; omega, fun j v hj k hk => ?_⟩, ⟨?_, ht2, fun i hi => ?_⟩, fun i hi => ?_⟩ (SO_tr (SO_sI ⟨by omega, by omega⟩) (SO_setA ⟨by omega, by omega⟩))
      · show gI _ 0 (mo + 1) i = nI (u i)
        rw [setA_at]
        unfold cpF
        rw [if_pos (by omega)]
        have := hus 0 u rfl i hi
        rw [List.length_cons] at this
        rw [show 770 + 770 * us.length + (i - 0) = 770 * (us.length + 1 - 0) + i by omega]
        exact this
      · have hj' : us[j]? = some v := hj
        have hjl := (List.getElem?_eq_some_iff.mp hj').1
        show gI _ 0 (mo + 1) (770 * (us.length - j) + k) = nI (v k)
        rw [setA_at]
        unfold cpF
        rw [if_neg (by omega)]
        have := hus (j + 1) v (by rw [List.getElem?_cons_succ]; exact hj') k hk
        rw [List.length_cons, show us.length + 1 - (j + 1) = us.length - j by omega] at this
        exact this
      · rw [gI_setA, if_neg (by omega), gI_sI, if_neg (by omega)]
        exact ht1
      · rw [gI_setA, if_neg (by omega), gI_sI, if_neg (by omega)]
        exact ht3 i hi
      · rw [gI_setA, if_neg (by omega), gI_sI, if_neg (by omega)]
        exact hw i hi
    · rw [hu, li_0, nI_eq (by omega) (by omega)] at hc
      omega
/-- rows as a function, the first 770 of them replaced -/
theorem MS_setA {q' : Nat → Nat} {g : Nat → Int32} (hS : MS S mo σ) (h0 : ∀ i, i < 770 → g i = nI (q' i)) (h1 : ∀ i, 770 ≤ i → g i = gI S 0 (mo + 1) i) : MS (setA S (mo + 1) g) mo (q', σ.2) := by
  obtain ⟨hM, hR, ⟨hu, hu8, hus⟩, ⟨ht1, ht2, ht3⟩, hw⟩ := hS
  refine ⟨hM, fun i hi => ?_, ⟨?_, hu8, fun j u hj i hi => ?_⟩, ⟨?_, ht2, fun i hi => ?_⟩, fun i hi => ?_⟩
  · rw [setA_at]
    exact h0 i hi
  · rw [gI_setA, if_neg (by omega)]
    exact hu
  · have hj2 : j < σ.2.1.length := (List.getElem?_eq_some_iff.mp hj).1
    rw [setA_at, h1 _ (by show 770 ≤ 770 * (σ.2.1.length - j) + i; omega)]
    exact hus j u hj i hi
  · rw [gI_setA, if_neg (by omega)]
    exact ht1
  · rw [gI_setA, if_neg (by omega)]
    exact ht3 i hi
  · rw [gI_setA, if_neg (by omega)]
    exact hw i hi
theorem M_drop {Q : Int32 → Hp → Prop} {x : Int32} (hS : MS S mo σ) (hV : V σ.1) (h : ∀ S', MS S' mo (oDrop σ x).2 → SO mo S S' → Q (oDrop σ x).1 S') : wp_X12_drop mo x S Q := by
  have h6 := hV.2.2.1
  unfold oDrop at h
  refine ⟨hS.1.1, m_isPart hS.1 hS.2.1 h6 (fun p hp hx => ⟨fun _ => ⟨hS.1.1, ?_⟩, fun w => absurd w (by decide)⟩) (fun hn => ⟨fun w => absurd rfl w, fun _ => ?_⟩)⟩
  · subst hx
    rw [if_pos ((okN_nI (by omega)).mpr hp), tn_nI (by omega)] at h
    generalize hq : σ.1 = q at hV h6 hp h
    refine M_notes hS (fun S1 h1 o1 => ?_)
    have hR1 : MR S1 mo q := by rw [← hq]; exact h1.2.1
    have hM1 := h1.1
    obtain ⟨k0, ⟨r1, k1, l1⟩, -⟩ := id hM1
    refine m_rd 2 hM1 li_2 (by omega) ⟨k1, by rw [l1]; exact vp_li (n := 2) (by omega) (by omega), ?_⟩
    rintro _ rfl
    rw [m_rv 2 hR1 li_2 (by omega), li_2, nI_clamp (by omega), li_1, pk_sub (by omega)]
    have e0 : (3 : Int32) + 15 * nI p = nI (3 + 15 * p) := by rw [li_3, li_15, pk_mul, nI_add]
    show wp_X12_drop_30 Q mo ((3 : Int32) + 15 * nI p) _
    rw [e0]
    -- the loop, by the place k
    have es : sI S1 0 (mo + 1) 2 (nI (q 2 - 1)) = setA S1 (mo + 1) (cpF (va_up (gI S1 0 (mo + 1)) 2 (nI (q 2 - 1))) (3 + 15 * p + 15) (3 + 15 * p) 0) := by
      rw [cpF_0, ← setA_sI, setA_self]
    rw [es]
    have hg2 : ∀ i, cpF (va_up (gI S1 0 (mo + 1)) 2 (nI (q 2 - 1))) (3 + 15 * p + 15) (3 + 15 * p) i 2 = nI (q 2 - 1) := fun i => by
      unfold cpF
      rw [if_neg (by omega)]
      exact va_up_self _ _ _
    have e15 : (3 : Int32) + 15 * nI (q 2 - 1) = nI (3 + 15 * (q 2 - 1)) := by rw [li_3, li_15, pk_mul, nI_add]
    have key := Lp_for (B := fun K y => wb_X12_drop_30 (fun w0 w1 => K (w0, w1)) Q mo y.1 y.2) (fun i => (nI (3 + 15 * p + i), setA S1 (mo + 1) (cpF (va_up (gI S1 0 (mo + 1)) 2 (nI (q 2 - 1))) (3 + 15 * p + 15) (3 + 15 * p) i))) (15 * (q 2 - 1 - p)) (fun i hi K hK => ?_) (fun K => ?_) (i := 0) (by omega)
    · exact key
    · refine m_rd 2 (S := setA S1 (mo + 1) _) hM1 li_2 (by omega) ?_
      rw [li_2, nI_clamp (by omega), setA_at, hg2]
      refine ⟨fun hc => ?_, fun _ => ⟨k0, k0, _, r1, k1, ?_, k1, ?_, ?_⟩⟩
      · rw [e15] at hc
        dsimp only at hc
        rw [nI_leI (by omega) (by omega)] at hc
        omega
      · rw [li_15, nI_add, ln_setA, l1]
        exact vp_li (by omega) (by omega)
      · rw [ln_setA, l1]
        exact vp_li (by omega) (by omega)
      · rintro _ rfl _ rfl
        dsimp only
        rw [li_15, nI_add, nI_clamp (by omega), nI_clamp (by omega), setA_at, setA_sI, nI_1, show 3 + 15 * p + i + 15 = (3 + 15 * p + 15) + i by omega, cpF_up _ _ _ _ (by omega)]
        exact hK
    · refine m_rd 2 (S := setA S1 (mo + 1) _) hM1 li_2 (by omega) ?_
      rw [li_2, nI_clamp (by omega), setA_at, hg2]
      refine ⟨fun _ => ?_, fun hc => ?_⟩
      · refine m_rd 2 (S := setA S1 (mo + 1) _) hM1 rfl (by omega) ?_
        dsimp only
        rw [setA_at, hg2]
        refine h _ ?_ (SO_tr o1 (SO_setA ⟨by omega, by omega⟩))
        have := MS_setA (q' := dropR q p) (g := cpF (va_up (gI S1 0 (mo + 1)) 2 (nI (q 2 - 1))) (3 + 15 * p + 15) (3 + 15 * p) (15 * (q 2 - 1 - p))) h1 (fun i hi => ?_) (fun i hi => ?_)
        · exact this
        · have hcp : 3 + 15 * p ≤ i ∧ i < 3 + 15 * p + 15 * (q 2 - 1 - p) ↔ 3 + 15 * p ≤ i ∧ i < 3 + 15 * (q 2 - 1) := by omega
          unfold cpF dropR
          by_cases hi2 : i = 2
          · subst hi2
            rw [if_neg (by omega), if_pos rfl]
            exact va_up_self _ _ _
          · rw [if_neg hi2]
            by_cases hr : 3 + 15 * p ≤ i ∧ i < 3 + 15 * (q 2 - 1)
            · rw [if_pos (hcp.mpr hr), if_pos hr, va_up_ne _ _ (by omega), show 3 + 15 * p + 15 + (i - (3 + 15 * p)) = i + 15 by omega]
              exact hR1 _ (by omega)
            · rw [if_neg (fun w => hr (hcp.mp w)), if_neg hr, va_up_ne _ _ hi2]
              exact hR1 i hi
        · unfold cpF
          rw [if_neg (by omega), va_up_ne _ _ (by omega)]
      · dsimp only at hc
        rw [e15, show 3 + 15 * p + 15 * (q 2 - 1 - p) = 3 + 15 * (q 2 - 1) by omega] at hc
        exact absurd (nI_le (Nat.le_refl _) (by omega)) hc
  · rw [if_neg (fun w => hn (okN_vp.mpr w))] at h
    exact h S hS (SO_rf mo S)
end MOPS3
