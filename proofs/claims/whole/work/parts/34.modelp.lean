section MOPS2
variable {S : Hp} {mo : Nat} {σ : Sg} {q : Nat → Nat}
theorem ix_at (i k c : Nat) : (3 : Int32) + 15 * nI i + nI k = nI (3 + 15 * i + k) := by
  rw [li_3, li_15, pk_mul, nI_add, nI_add]
theorem m_isPacket {x : Int32} {Q : Int32 → Prop} (hM : MK S mo) (hR : MR S mo q) (h8 : q 94 ≤ 8) (h1 : ∀ j, j < q 94 → x = nI j → Q 1) (h0 : ¬ vp_in x (q 94) → Q 0) : wp_X12_isPacket mo x S Q := by
  refine m_rd 94 hM li_94 (by omega) ?_
  rw [m_rv 94 hR li_94 (by omega)]
  exact m_inN (by omega) (fun j hj hx => ⟨Or.inr rfl, h1 j hj hx⟩) (fun h => ⟨Or.inl rfl, h0 h⟩)
theorem m_isPacked {x : Int32} {Q : Int32 → Prop} (hM : MK S mo) (hR : MR S mo q) (h6 : q 93 ≤ 6) (h1 : ∀ j, j < q 93 → x = nI j → Q 1) (h0 : ¬ vp_in x (q 93) → Q 0) : wp_X12_isPacked mo x S Q := by
  refine m_rd 93 hM li_93 (by omega) ?_
  rw [m_rv 93 hR li_93 (by omega)]
  exact m_inN (by omega) (fun j hj hx => ⟨Or.inr rfl, h1 j hj hx⟩) (fun h => ⟨Or.inl rfl, h0 h⟩)
theorem m_hasNumber {t : Nat} {x : Int32} {Q : Int32 → Prop} (hM : MK S mo) (hR : MR S mo q) (hV : V q) (ht : t < 8) (h1 : ∀ j, j < q (122 + t) → x = nI j → q (114 + t) = 0 → Q 1) (h0 : ¬ (q (114 + t) = 0 ∧ vp_in x (q (122 + t))) → Q 0) : wp_X12_hasNumber mo (nI t) x S Q := by
  have e1 : (114 : Int32) + nI t = nI (114 + t) := by rw [li_114, nI_add]
  have e2 : (122 : Int32) + nI t = nI (122 + t) := by rw [li_122, nI_add]
  have hv := hV.2.2.2.2.2.2.1 t ht
  have h95 := hV.2.2.2.2.1.2.2
  refine m_rd _ hM e1 (by omega) ?_
  rw [m_rv _ hR e1 (by omega)]
  refine ⟨fun hc => ⟨Or.inl rfl, h0 fun w => hc ?_⟩, fun hc => ?_⟩
  · rw [w.1]
    rfl
  · have hz : q (114 + t) = 0 := nI_inj (by omega) (by omega) (hc.trans li_0)
    refine m_rd _ hM e2 (by omega) ?_
    rw [m_rv _ hR e2 (by omega)]
    refine m_inN (by omega) (fun j hj hx => ⟨fun w => absurd w (by decide), fun _ => ⟨Or.inr rfl, h1 j hj hx hz⟩⟩) (fun h => ⟨fun _ => ⟨Or.inl rfl, h0 fun w => h w.2⟩, fun w => absurd rfl w⟩)
theorem M_need {Q : Int32 → Hp → Prop} {p x : Int32} (hS : MS S mo σ) (hV : V σ.1) (h : ∀ S', MS S' mo (oNeed σ p x).2 → SO mo S S' → Q (oNeed σ p x).1 S') : wp_X12_need mo p x S Q := by
  have h6 := hV.2.2.1
  unfold oNeed at h
  refine ⟨hS.1.1, m_isPart hS.1 hS.2.1 h6 (fun j hj hp => ⟨fun _ => ?_, fun w => absurd w (by decide)⟩) (fun hn => ⟨fun w => absurd rfl w, fun _ => ?_⟩)⟩
  · subst hp
    rw [if_pos ((okN_nI (by omega)).mpr hj), tn_nI (by omega)] at h
    refine m_inB (a := 1) (b := 8) rfl rfl (by omega) (fun i h1 hi hx => ⟨fun w => absurd w (by decide), fun _ => ⟨hS.1.1, ?_⟩⟩) (fun hn => ⟨fun _ => ?_, fun w => absurd rfl w⟩)
    · subst hx
      rw [if_pos ((okB_nI (by omega)).mpr ⟨h1, hi⟩), tn_nI (by omega)] at h
      have e : (3 : Int32) + 15 * nI j + 1 = nI (4 + 15 * j) := by rw [li_1, ix_at j 1 0, show 3 + 15 * j + 1 = 4 + 15 * j by omega]
      rw [e]
      exact M_changes hS (by omega) h
    · rw [if_neg hn] at h
      exact h S hS (SO_rf mo S)
  · rw [if_neg (fun w => hn (okN_vp.mpr w))] at h
    exact h S hS (SO_rf mo S)
theorem M_weigh {Q : Int32 → Hp → Prop} {p x : Int32} (hS : MS S mo σ) (hV : V σ.1) (h : ∀ S', MS S' mo (oWeigh σ p x).2 → SO mo S S' → Q (oWeigh σ p x).1 S') : wp_X12_weigh mo p x S Q := by
  have h6 := hV.2.2.1
  unfold oWeigh at h
  refine ⟨hS.1.1, m_isPart hS.1 hS.2.1 h6 (fun j hj hp => ⟨fun _ => ?_, fun w => absurd w (by decide)⟩) (fun hn => ⟨fun w => absurd rfl w, fun _ => ?_⟩)⟩
  · subst hp
    rw [if_pos ((okN_nI (by omega)).mpr hj), tn_nI (by omega)] at h
    refine m_inB (a := 1) (b := 9) rfl rfl (by omega) (fun i h1 hi hx => ⟨fun w => absurd w (by decide), fun _ => ⟨hS.1.1, ?_⟩⟩) (fun hn => ⟨fun _ => ?_, fun w => absurd rfl w⟩)
    · subst hx
      rw [if_pos ((okB_nI (by omega)).mpr ⟨h1, hi⟩), tn_nI (by omega)] at h
      have e : (3 : Int32) + 15 * nI j + 2 = nI (5 + 15 * j) := by rw [li_2, ix_at j 2 0, show 3 + 15 * j + 2 = 5 + 15 * j by omega]
      rw [e]
      exact M_changes hS (by omega) h
    · rw [if_neg hn] at h
      exact h S hS (SO_rf mo S)
  · rw [if_neg (fun w => hn (okN_vp.mpr w))] at h
    exact h S hS (SO_rf mo S)
theorem M_lose {Q : Int32 → Hp → Prop} {x : Int32} (hS : MS S mo σ) (hV : V σ.1) (h : ∀ S', MS S' mo (oLose σ x).2 → SO mo S S' → Q (oLose σ x).1 S') : wp_X12_lose mo x S Q := by
  have h8 := hV.2.2.2.2.1.2.1
  unfold oLose at h
  refine ⟨hS.1.1, m_isPacket hS.1 hS.2.1 h8 (fun j hj hp => ⟨fun _ => ?_, fun w => absurd w (by decide)⟩) (fun hn => ⟨fun w => absurd rfl w, fun _ => ?_⟩)⟩
  · subst hp
    have hv := hV.2.2.2.2.2.2.1 j (by omega)
    have e1 : (114 : Int32) + nI j = nI (114 + j) := by rw [li_114, nI_add]
    have e2 : (122 : Int32) + nI j = nI (122 + j) := by rw [li_122, nI_add]
    rw [if_pos ((okN_nI (by omega)).mpr hj), tn_nI (by omega)] at h
    refine m_rd _ hS.1 e1 (by omega) ?_
    rw [m_rv _ hS.2.1 e1 (by omega)]
    refine ⟨fun hc => ⟨hS.1.1, ?_⟩, fun hc => ?_⟩
    · rw [li_1, nI_ne (by omega) (by omega)] at hc
      rw [if_neg hc] at h
      rw [e1, li_1]
      refine M_changes hS (by omega) (fun S1 h1 o1 => ?_)
      refine m_rd _ h1.1 e2 (by omega) ?_
      rw [m_rv _ h1.2.1 e2 (by omega)]
      have e3 : (push σ (va_up σ.1 (114 + j) 1)).1 (122 + j) = σ.1 (122 + j) := va_up_ne _ _ (by omega)
      rw [e3]
      exact h S1 h1 o1
    · rw [li_1, nI_eq (by omega) (by omega)] at hc
      rw [if_pos hc] at h
      exact h S hS (SO_rf mo S)
  · rw [if_neg (fun w => hn (okN_vp.mpr w))] at h
    exact h S hS (SO_rf mo S)
theorem M_cut {Q : Int32 → Hp → Prop} {x y : Int32} (hS : MS S mo σ) (hV : V σ.1) (h : ∀ S', MS S' mo (oCut σ x y).2 → SO mo S S' → Q (oCut σ x y).1 S') : wp_X12_cut mo x y S Q := by
  have h8 := hV.2.2.2.2.1
  unfold oCut at h
  refine ⟨hS.1.1, m_isPacket hS.1 hS.2.1 h8.2.1 (fun j hj hp => ⟨fun _ => ?_, fun w => absurd w (by decide)⟩) (fun hn => ⟨fun w => absurd rfl w, fun _ => ?_⟩)⟩
  · subst hp
    have hv := hV.2.2.2.2.2.2.1 j (by omega)
    have e1 : (114 : Int32) + nI j = nI (114 + j) := by rw [li_114, nI_add]
    have e2 : (122 : Int32) + nI j = nI (122 + j) := by rw [li_122, nI_add]
    rw [if_pos ((okN_nI (by omega)).mpr hj), tn_nI (by omega)] at h
    refine m_rd _ hS.1 e2 (by omega) ?_
    rw [m_rv _ hS.2.1 e2 (by omega)]
    refine m_inB (a := 0) (b := σ.1 (122 + j)) rfl (by rw [Int32.toInt_toInt64, nI_toInt (by omega)]) (by omega) (fun i _ hi hx => ⟨fun _ => ?_, fun w => absurd w (by decide)⟩) (fun hn => ⟨fun w => absurd rfl w, fun _ => ?_⟩)
    · subst hx
      rw [if_pos ((okB_nI (by omega)).mpr ⟨by omega, hi⟩), tn_nI (by omega)] at h
      refine m_rd _ hS.1 e1 (by omega) ?_
      rw [m_rv _ hS.2.1 e1 (by omega)]
      refine ⟨fun hc => ⟨hS.1.1, ?_⟩, fun hc => ?_⟩
      · rw [li_1, nI_ne (by omega) (by omega)] at hc
        rw [if_neg hc] at h
        rw [e2]
        refine M_changes hS (by omega) (fun S1 h1 o1 => ?_)
        rw [pk_sub hi]
        exact h S1 h1 o1
      · rw [li_1, nI_eq (by omega) (by omega)] at hc
        rw [if_pos hc] at h
        exact h S hS (SO_rf mo S)
    · rw [if_neg hn] at h
      exact h S hS (SO_rf mo S)
  · rw [if_neg (fun w => hn (okN_vp.mpr w))] at h
    exact h S hS (SO_rf mo S)
theorem M_spoil {Q : Int32 → Hp → Prop} {x y v : Int32} (hS : MS S mo σ) (hV : V σ.1) (h : ∀ S', MS S' mo (oSpoil σ x y v).2 → SO mo S S' → Q (oSpoil σ x y v).1 S') : wp_X12_spoil mo x y v S Q := by
  have h8 := hV.2.2.2.2.1
  unfold oSpoil at h
  refine ⟨hS.1.1, m_isPacket hS.1 hS.2.1 h8.2.1 (fun j hj hp => ⟨fun w => absurd w (by decide), fun _ => ⟨hS.1.1, ?_⟩⟩) (fun hn => ⟨fun _ => ?_, fun w => absurd rfl w⟩)⟩
  · subst hp
    have hv := hV.2.2.2.2.2.2.1 j (by omega)
    rw [tn_nI (by omega)] at h
    refine m_hasNumber hS.1 hS.2.1 hV (by omega) (fun i hi hx h0 => ⟨fun _ => ?_, fun w => absurd w (by decide)⟩) (fun hn => ⟨fun w => absurd rfl w, fun _ => ?_⟩)
    · subst hx
      rw [if_pos ⟨(okN_nI (by omega)).mpr hj, (okN_nI (by omega)).mpr hi, h0⟩, tn_nI (by omega)] at h
      refine m_inB (a := 0) (b := 28) rfl rfl (by omega) (fun k _ hk hx => ⟨fun w => absurd w (by decide), fun _ => ⟨hS.1.1, ?_⟩⟩) (fun hn => ⟨fun _ => ?_, fun w => absurd rfl w⟩)
      · subst hx
        rw [if_pos ((okB_nI (by omega)).mpr ⟨by omega, hk⟩), tn_nI (by omega)] at h
        rw [li_450, li_40, pk_mul, nI_add, nI_add]
        exact M_changes hS (by omega) h
      · rw [if_neg hn] at h
        exact h S hS (SO_rf mo S)
    · rw [if_neg (fun w => hn ⟨w.2.2, okN_vp.mpr w.2.1⟩)] at h
      exact h S hS (SO_rf mo S)
  · rw [if_neg (fun w => hn (okN_vp.mpr w.1))] at h
    exact h S hS (SO_rf mo S)
theorem M_number {Q : Int32 → Prop} {x y : Int32} (hM : MK S mo) (hR : MR S mo q) (hV : V q) (h : Q (oNumber q x y)) : wp_X12_number mo x y S Q := by
  have h8 := hV.2.2.2.2.1
  unfold oNumber at h
  refine ⟨hM.1, m_isPacket hM hR h8.2.1 (fun j hj hp => ⟨fun w => absurd w (by decide), fun _ => ?_⟩) (fun hn => ⟨fun _ => ?_, fun w => absurd rfl w⟩)⟩
  · subst hp
    have hv := hV.2.2.2.2.2.2.1 j (by omega)
    refine m_rd 95 hM li_95 (by omega) ?_
    rw [m_rv 95 hR li_95 (by omega)]
    refine m_inN (by omega) (fun i hi hx => ⟨fun _ => ⟨hM.1, ?_⟩, fun w => absurd w (by decide)⟩) (fun hn => ⟨fun w => absurd rfl w, fun _ => ?_⟩)
    · subst hx
      rw [if_pos ⟨(okN_nI (by omega)).mpr hj, (okN_nI (by omega)).mpr hi⟩, tn_nI (by omega), tn_nI (by omega)] at h
      refine m_hasNumber hM hR hV (by omega) (fun i' hi' hx h0 => ⟨fun w => absurd w (by decide), fun _ => ?_⟩) (fun hn => ⟨fun _ => ?_, fun w => absurd rfl w⟩)
      · obtain rfl : i' = i := nI_inj (by omega) (by omega) hx.symm
        rw [if_pos ⟨h0, (okN_nI (by omega)).mpr hi'⟩] at h
        have e : (450 : Int32) + 40 * nI j + nI i' = nI (450 + 40 * j + i') := by rw [li_450, li_40, pk_mul, nI_add, nI_add]
        refine m_rd _ hM e (by omega) ?_
        rw [m_rv _ hR e (by omega)]
        exact h
      · rw [if_neg (fun w => hn ⟨w.1, okN_vp.mpr w.2⟩)] at h
        exact h
    · rw [if_neg (fun w => hn (okN_vp.mpr w.2))] at h
      exact h
  · rw [if_neg (fun w => hn (okN_vp.mpr w.1))] at h
    exact h
theorem M_letter {Q : Int32 → Prop} {x y : Int32} (hM : MK S mo) (hR : MR S mo q) (hV : V q) (h : Q (oLetter q x y)) : wp_X12_letter mo x y S Q := by
  have h6 := hV.2.2.1
  obtain ⟨k0, ⟨r1, k1, l1⟩, -⟩ := id hM
  unfold oLetter at h
  refine ⟨hM.1, m_isPart hM hR h6 (fun j hj hp => ⟨fun w => absurd w (by decide), fun _ => ?_⟩) (fun hn => ⟨fun _ => ?_, fun w => absurd rfl w⟩)⟩
  · subst hp
    have hp := hV.2.2.2.1 j hj
    have e0 : (3 : Int32) + 15 * nI j + 0 = nI (3 + 15 * j) := by rw [li_0, ix_at j 0 0]; rfl
    refine ⟨k0, _, r1, k1, by rw [l1, e0]; exact vp_li (by omega) (by omega), ?_⟩
    rw [m_rv _ hR e0 (by omega)]
    rw [tn_nI (by omega)] at h
    refine m_inN (by omega) (fun i hi hx => ⟨fun w => absurd w (by decide), fun _ => ?_⟩) (fun hn => ⟨fun _ => ?_, fun w => absurd rfl w⟩)
    · subst hx
      rw [if_pos ⟨(okN_nI (by omega)).mpr hj, (okN_nI (by omega)).mpr hi⟩, tn_nI (by omega)] at h
      have e : (3 : Int32) + 15 * nI j + 3 + nI i = nI (6 + 15 * j + i) := by
        rw [li_3, li_15, pk_mul, nI_add, nI_add, nI_add]
        congr 1
        omega
      refine ⟨k0, _, r1, k1, by rw [l1, e]; exact vp_li (by omega) (by omega), ?_⟩
      rw [m_rv _ hR e (by omega)]
      exact h
    · rw [if_neg (fun w => hn (okN_vp.mpr w.2))] at h
      exact h
  · rw [if_neg (fun w => hn (okN_vp.mpr w.1))] at h
    exact h
theorem M_part {Q : Int32 → Prop} {x y : Int32} (hM : MK S mo) (hR : MR S mo q) (hV : V q) (h : Q (oPart q x y)) : wp_X12_part mo x y S Q := by
  have h6 := hV.2.2.1
  obtain ⟨k0, ⟨r1, k1, l1⟩, -⟩ := id hM
  unfold oPart at h
  refine ⟨hM.1, m_isPart hM hR h6 (fun j hj hp => ⟨fun _ => ?_, fun w => absurd w (by decide)⟩) (fun hn => ⟨fun w => absurd rfl w, fun _ => ?_⟩)⟩
  · subst hp
    have hp := hV.2.2.2.1 j hj
    rw [if_pos ((okN_nI (by omega)).mpr hj), tn_nI (by omega)] at h
    refine m_inB (a := 0) (b := 2) rfl rfl (by omega) (fun i _ hi hx => ⟨fun w => absurd w (by decide), fun _ => ?_⟩) (fun hn => ⟨fun _ => ?_, fun w => absurd rfl w⟩)
    · subst hx
      rw [if_pos ((okB_nI (by omega)).mpr ⟨by omega, hi⟩), tn_nI (by omega)] at h
      refine ⟨k0, _, r1, k1, by rw [l1, ix_at j i 0]; exact vp_li (by omega) (by omega), ?_⟩
      rw [m_rv _ hR (ix_at j i 0) (by omega)]
      exact h
    · rw [if_neg hn] at h
      refine ⟨fun hc => ?_, fun hc => ⟨k0, m_stripesOf hM hR (by omega) hp.1.2 hp.2.1.1 hp.2.1.2 ?_⟩⟩
      · rw [if_neg hc] at h
        exact h
      · rw [if_pos hc] at h
        exact h
  · rw [if_neg (fun w => hn (okN_vp.mpr w))] at h
    exact h
end MOPS2
