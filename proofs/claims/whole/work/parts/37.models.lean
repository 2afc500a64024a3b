section MOPS5
variable {S : Hp} {mo : Nat} {σ : Sg} {q : Nat → Nat}
/-- the state of the search ahead of set s: at first nothing is found -/
def lsM (q : Nat → Nat) (r s : Nat) : Int32 × Int32 := if s = 0 then (0, -1) else (nI (lsB q r s).1, nI (lsB q r s).2)
theorem lsM_step {r s : Nat} (hV : V q) : lsM q r (s + 1) = if lenS q s (q 2) ≤ r ∧ (lsM q r s).2 ≤ nI (wS q s (q 2)) then (nI s, nI (wS q s (q 2))) else lsM q r s := by
  have hw := wS_le hV s (q 2) (Nat.le_refl _)
  have h2 := hV.2.2.1
  unfold lsM
  rw [if_neg (by omega)]
  by_cases hs : s = 0
  · subst hs
    have e1 : lenS q 0 (q 2) = 0 := by
      have : ∀ p, lenS q 0 p = 0 := by
        intro p
        induction p with
        | zero => rfl
        | succ p ih => rw [lenS, ih, if_neg (by rw [Nat.zero_div]; decide)]
      exact this _
    have e2 : wS q 0 (q 2) = 0 := by
      have : ∀ p, wS q 0 p = 0 := by
        intro p
        induction p with
        | zero => rfl
        | succ p ih => rw [wS, ih, if_neg (by rw [Nat.zero_div]; decide)]
      exact this _
    have e3 : lsB q r 1 = (0, 0) := by
      rw [lsB, e1, e2]
      split <;> rfl
    rw [if_pos rfl, e1, e2, e3, if_pos ⟨Nat.zero_le _, by decide⟩]
  · rw [if_neg hs]
    have hb := lsB_le hV (r := r) s
    simp only [nI_leI (show (lsB q r s).2 < 2 ^ 31 by omega) (show wS q s (q 2) < 2 ^ 31 by omega)]
    show (nI (if lenS q s (q 2) ≤ r ∧ (lsB q r s).2 ≤ wS q s (q 2) then (s, wS q s (q 2)) else lsB q r s).1, nI (if lenS q s (q 2) ≤ r ∧ (lsB q r s).2 ≤ wS q s (q 2) then (s, wS q s (q 2)) else lsB q r s).2) = _
    split <;> rfl
theorem M_lesser {Q : Int32 → Prop} {x : Int32} (hM : MK S mo) (hR : MR S mo q) (hV : V q) (h : Q (oLesser q x)) : wp_X12_lesser mo x S Q := by
  have h6 := hV.2.2.1
  obtain ⟨k0, ⟨r1, k1, l1⟩, -⟩ := id hM
  unfold oLesser at h
  refine m_inB (a := 0) (b := 40) rfl rfl (by omega) (fun r _ hr hx => ⟨fun _ => ?_, fun w => absurd w (by decide)⟩) (fun hn => ⟨fun w => absurd rfl w, fun _ => ?_⟩)
  · subst hx
    rw [if_pos ((okB_nI (by omega)).mpr ⟨by omega, hr⟩), tn_nI (by omega)] at h
    have hpow : 2 ^ q 2 ≤ 2 ^ 6 := Nat.pow_le_pow_right (by omega) h6
    have hpos : 0 < 2 ^ q 2 := Nat.two_pow_pos _
    have key := Lp_for (B := fun K y => wb_X12_lesser_22 (fun w0 w1 w2 => K (w0, w1, w2)) Q mo (nI r) y.1 y.2.1 y.2.2 S) (fun s => ((lsM q r s).1, (lsM q r s).2, nI s)) (2 ^ q 2) (fun s hs K hK => ?_) (fun K => ?_) (i := 0) (by omega)
    · exact key
    · refine m_rd 2 hM li_2 (by omega) ?_
      rw [m_rv 2 hR li_2 (by omega), shl_nI (by omega)]
      refine ⟨fun hc => ?_, fun _ => ?_⟩
      · dsimp only at hc
        rw [nI_leI (by omega) (by omega)] at hc
        omega
      · have hw := wS_le hV s (q 2) (Nat.le_refl _)
        have hl := lenS_le hV s (q 2) (Nat.le_refl _)
        refine Lp_for (fun i => (nI (wS q s i), nI i)) (q 2) (fun i hi K2 hK2 => ?_) (fun K2 => ?_) (i := 0) (by omega)
        · have hp := hV.2.2.2.1 i hi
          have hb := Nat.mod_two_eq_zero_or_one (s / 2 ^ i)
          have e2 : (3 : Int32) + 15 * nI i + 2 = nI (5 + 15 * i) := by rw [li_2, ix_at i 2 0, show 3 + 15 * i + 2 = 5 + 15 * i by omega]
          refine m_rd 2 hM li_2 (by omega) ⟨fun hc => ?_, fun _ => ⟨fun hc => ?_, fun hc => ?_⟩⟩
          · rw [m_rv 2 hR li_2 (by omega)] at hc
            dsimp only at hc
            rw [nI_leI (by omega) (by omega)] at hc
            omega
          · dsimp only at hc
            rw [bit_nI (by omega) (by omega), li_1, nI_ne (by omega) (by omega)] at hc
            rintro _ rfl _ rfl
            dsimp only
            rw [li_0, nI_add, nI_1]
            have e : wS q s (i + 1) = wS q s i + 0 := by rw [wS, if_neg hc]
            rw [e] at hK2
            exact hK2
          · dsimp only at hc
            rw [bit_nI (by omega) (by omega), li_1, nI_eq (by omega) (by omega)] at hc
            refine ⟨k0, _, r1, k1, by dsimp only; rw [l1, e2]; exact vp_li (by omega) (by omega), ?_⟩
            rintro _ rfl _ rfl
            dsimp only
            rw [m_rv _ hR e2 (by omega), nI_add, nI_1]
            have e : wS q s (i + 1) = wS q s i + q (5 + 15 * i) := by rw [wS, if_pos hc]
            rw [e] at hK2
            exact hK2
        · refine m_rd 2 hM li_2 (by omega) ⟨fun _ => ⟨k0, ?_⟩, fun hc => ?_⟩
          · dsimp only
            refine m_lengthOf hM hR hV s (by omega) ?_
            rw [nI_ltI (by omega) (by omega)]
            have st := lsM_step (q := q) (r := r) (s := s) hV
            refine ⟨fun hc => ?_, fun hc => ⟨fun hd => ?_, fun hd => ?_⟩⟩
            · rw [if_neg (fun w => by have := w.1; omega)] at st
              rintro _ rfl
              try dsimp only
              rw [nI_1]
              rw [st] at hK
              exact hK
            · rw [if_neg (fun w => Int32.not_le.mpr hd w.2)] at st
              rintro _ rfl
              try dsimp only
              rw [nI_1]
              rw [st] at hK
              exact hK
            · rw [if_pos ⟨by omega, Int32.not_lt.mp hd⟩] at st
              rintro _ rfl
              try dsimp only
              rw [nI_1]
              rw [st] at hK
              exact hK
          · rw [m_rv 2 hR li_2 (by omega)] at hc
            exact absurd (nI_le (Nat.le_refl _) (by omega)) hc
    · refine m_rd 2 hM li_2 (by omega) ?_
      rw [m_rv 2 hR li_2 (by omega), shl_nI (by omega)]
      refine ⟨fun _ => ?_, fun hc => absurd (nI_le (Nat.le_refl _) (by omega)) hc⟩
      dsimp only
      unfold lsM
      rw [if_neg (by omega)]
      exact h
  · rw [if_neg hn] at h
    exact h
/-- again(): the numbers are put back from the first on -/
theorem agN_le {t : Nat} : ∀ i, agN q t i ≤ i
  | 0 => Nat.le_refl 0
  | i + 1 => by
    have := agN_le (t := t) i
    unfold agN
    split <;> omega
theorem M_again {Q : Int32 → Hp → Prop} {x : Int32} (hS : MS S mo σ) (hV : V σ.1) (h : ∀ S', MS S' mo (oAgain σ x).2 → SO mo S S' → Q (oAgain σ x).1 S') : wp_X12_again mo x S Q := by
  have h8 := hV.2.2.2.2.1
  unfold oAgain at h
  refine ⟨hS.1.1, m_isPacket hS.1 hS.2.1 h8.2.1 (fun t ht hx => ⟨fun _ => ⟨hS.1.1, ?_⟩, fun w => absurd w (by decide)⟩) (fun hn => ⟨fun w => absurd rfl w, fun _ => ?_⟩)⟩
  · subst hx
    rw [if_pos ((okN_nI (by omega)).mpr ht), tn_nI (by omega)] at h
    generalize hq : σ.1 = q at hV h8 ht h
    refine M_notes hS (fun S1 h1 o1 => ?_)
    have hR1 : MR S1 mo q := by rw [← hq]; exact h1.2.1
    have hM1 := h1.1
    obtain ⟨k0, ⟨r1, k1, l1⟩, -⟩ := id hM1
    have hv := hV.2.2.2.2.2.2.1 t (by omega)
    -- what the row is when the first i numbers are put back
    have hg : ∀ i, i ≤ q 95 → ∀ k, k < 770 → cpF (gI S1 0 (mo + 1)) (130 + 40 * t) (450 + 40 * t) i k = nI (if 450 + 40 * t ≤ k ∧ k < 450 + 40 * t + i then q (k - 320) else q k) := by
      intro i hi k hk
      unfold cpF
      by_cases hr : 450 + 40 * t ≤ k ∧ k < 450 + 40 * t + i
      · rw [if_pos hr, if_pos hr, show 130 + 40 * t + (k - (450 + 40 * t)) = k - 320 by omega]
        exact hR1 _ (by omega)
      · rw [if_neg hr, if_neg hr]
        exact hR1 k hk
    have hRi : ∀ i, i ≤ q 95 → MR (setA S1 (mo + 1) (cpF (gI S1 0 (mo + 1)) (130 + 40 * t) (450 + 40 * t) i)) mo (fun k => if 450 + 40 * t ≤ k ∧ k < 450 + 40 * t + i then q (k - 320) else q k) := fun i hi k hk => by rw [setA_at]; exact hg i hi k hk
    have key := Lp_for (B := fun K y => wb_X12_again_19 (fun w0 w1 w2 => K (w0, w1, w2)) Q mo (nI t) y.1 y.2.1 y.2.2) (fun i => (nI (agN q t i), nI i, setA S1 (mo + 1) (cpF (gI S1 0 (mo + 1)) (130 + 40 * t) (450 + 40 * t) i))) (q 95) (fun i hi K hK => ?_) (fun K => ?_) (i := 0) (by omega)
    · rw [cpF_0, setA_self] at key
      exact key
    · have hR' := hRi i (by omega)
      refine m_rd 95 (S := setA S1 (mo + 1) _) hM1 li_95 (by omega) ⟨fun hc => ?_, fun _ => ?_⟩
      · dsimp only at hc
        rw [m_rv 95 hR' li_95 (by omega), if_neg (by omega), nI_leI (by omega) (by omega)] at hc
        omega
      · rintro _ rfl
        dsimp only
        have e0 : (40 : Int32) * nI t + nI i = nI (40 * t + i) := by rw [li_40, pk_mul, nI_add]
        rw [e0]
        have e1 : (130 : Int32) + nI (40 * t + i) = nI (130 + (40 * t + i)) := by rw [li_130, nI_add]
        have e2 : (450 : Int32) + nI (40 * t + i) = nI (450 + (40 * t + i)) := by rw [li_450, nI_add]
        have wr : ∀ d : Nat, agN q t (i + 1) = agN q t i + d → wp_X12_again_78 (fun w0 w1 w2 => K (w0, w1, w2)) Q mo (nI t) (nI i) (nI (40 * t + i)) (nI d) (nI (agN q t i)) (setA S1 (mo + 1) (cpF (gI S1 0 (mo + 1)) (130 + 40 * t) (450 + 40 * t) i)) := by
          intro d hd
          rintro _ rfl
          refine ⟨k0, k0, _, r1, k1, by rw [ln_setA, l1, e1]; exact vp_li (by omega) (by omega), k1, by rw [ln_setA, l1, e2]; exact vp_li (by omega) (by omega), ?_⟩
          rintro _ rfl _ rfl
          rw [e1, e2, nI_clamp (by omega), nI_clamp (by omega), setA_at, setA_sI, nI_1, nI_add, ← hd, show 130 + (40 * t + i) = 130 + 40 * t + i by omega, show 450 + (40 * t + i) = 450 + 40 * t + i by omega, cpF_up _ _ _ _ (by omega)]
          exact hK
        refine ⟨k0, ?_⟩
        -- the numbers ahead: as they were
        have hh : ∀ k, k < 450 → (fun k => if 450 + 40 * t ≤ k ∧ k < 450 + 40 * t + i then q (k - 320) else q k) k = q k := fun k hk => by dsimp only; rw [if_neg (by omega)]
        have hVr : q (114 + t) ≤ 1 ∧ q (122 + t) ≤ q 95 := hv
        have e114 : (114 : Int32) + nI t = nI (114 + t) := by rw [li_114, nI_add]
        have e122 : (122 : Int32) + nI t = nI (122 + t) := by rw [li_122, nI_add]
        have hno : ¬ has q t i → wp_X12_again_73 (fun w0 w1 w2 => K (w0, w1, w2)) Q mo (nI t) (nI i) (nI (40 * t + i)) (nI (agN q t i)) (setA S1 (mo + 1) (cpF (gI S1 0 (mo + 1)) (130 + 40 * t) (450 + 40 * t) i)) := fun hn => wr 1 (by rw [agN, if_pos (Or.inl hn)])
        have hyes : has q t i → kd (setA S1 (mo + 1) (cpF (gI S1 0 (mo + 1)) (130 + 40 * t) (450 + 40 * t) i)) mo = 13 := fun _ => k0
        refine m_rd _ (S := setA S1 (mo + 1) _) hM1 e114 (by omega) ?_
        rw [m_rv _ hR' e114 (by omega), if_neg (by omega)]
        refine ⟨fun hc => ⟨Or.inl rfl, fun _ => hno fun w => hc (by rw [w.1]; rfl), fun w => absurd rfl w⟩, fun hc => ?_⟩
        have hz : q (114 + t) = 0 := nI_inj (by omega) (by omega) (hc.trans li_0)
        refine m_rd _ (S := setA S1 (mo + 1) _) hM1 e122 (by omega) ?_
        rw [m_rv _ hR' e122 (by omega), if_neg (by omega)]
        refine m_inN (by omega) (fun j hj hx => ⟨fun w => absurd w (by decide), fun _ => ⟨Or.inr rfl, fun w => absurd w (by decide), fun _ => ?_⟩⟩) (fun hn => ⟨fun _ => ⟨Or.inl rfl, fun _ => hno fun w => hn ((vp_nI (by omega)).mpr w.2), fun w => absurd rfl w⟩, fun w => absurd rfl w⟩)
        obtain rfl : j = i := nI_inj (by omega) (by omega) hx.symm
        refine m_rd _ (S := setA S1 (mo + 1) _) hM1 e2 (by omega) ?_
        refine m_rd _ (S := setA S1 (mo + 1) _) hM1 e1 (by omega) ?_
        rw [m_rv _ hR' e2 (by omega), m_rv _ hR' e1 (by omega), if_neg (by omega), if_neg (by omega)]
        have hb1 := (hV.2.2.2.2.2.2.2 t (by omega) j (by omega)).1
        have hb2 := (hV.2.2.2.2.2.2.2 t (by omega) j (by omega)).2
        rw [show 450 + (40 * t + j) = 450 + 40 * t + j by omega, show 130 + (40 * t + j) = 130 + 40 * t + j by omega, nI_eq (by omega) (by omega)]
        refine ⟨fun hc => wr 0 ?_, fun hc => wr 1 ?_⟩
        · rw [agN, if_neg (fun w => w.elim (fun a => a ⟨hz, hj⟩) (fun a => a hc))]
        · rw [agN, if_pos (Or.inr hc)]
    · have hR' := hRi (q 95) (Nat.le_refl _)
      refine m_rd 95 (S := setA S1 (mo + 1) _) hM1 li_95 (by omega) ⟨fun _ => ?_, fun hc => ?_⟩
      · have e114 : (114 : Int32) + nI t = nI (114 + t) := by rw [li_114, nI_add]
        have e122 : (122 : Int32) + nI t = nI (122 + t) := by rw [li_122, nI_add]
        refine m_rd _ (S := setA S1 (mo + 1) _) hM1 e114 (by omega) ?_
        rintro _ rfl
        dsimp only
        rw [e114, nI_clamp (by omega), setA_sI]
        refine ⟨k0, k0, _, r1, k1, by rw [ln_setA, l1]; exact vp_li (n := 95) (by omega) (by omega), k1, by rw [ln_setA, l1, e122]; exact vp_li (by omega) (by omega), ?_⟩
        rintro _ rfl
        rw [e122, li_95, nI_clamp (by omega), nI_clamp (by omega), setA_at, va_up_ne _ _ (by omega), hg (q 95) (Nat.le_refl _) 95 (by omega), if_neg (by omega), setA_sI]
        refine h _ ?_ (SO_tr o1 (SO_setA ⟨by omega, by omega⟩))
        have := MS_setA (q' := agR q t) (g := va_up (va_up (cpF (gI S1 0 (mo + 1)) (130 + 40 * t) (450 + 40 * t) (q 95)) (114 + t) 0) (122 + t) (nI (q 95))) h1 (fun k hk => ?_) (fun k hk => ?_)
        · exact this
        · unfold agR
          by_cases hk2 : k = 122 + t
          · subst hk2
            rw [va_up_self, if_neg (by omega), if_neg (by omega), if_pos rfl]
          · rw [va_up_ne _ _ hk2]
            by_cases hk1 : k = 114 + t
            · subst hk1
              rw [va_up_self, if_neg (by omega), if_pos rfl]
              rfl
            · rw [va_up_ne _ _ hk1, hg (q 95) (Nat.le_refl _) k hk]
              by_cases hr : 450 + 40 * t ≤ k ∧ k < 450 + 40 * t + q 95
              · rw [if_pos hr, if_pos hr]
              · rw [if_neg hr, if_neg hr, if_neg hk1, if_neg hk2]
        · rw [va_up_ne _ _ (by omega), va_up_ne _ _ (by omega)]
          unfold cpF
          rw [if_neg (by omega)]
      · dsimp only at hc
        rw [m_rv 95 hR' li_95 (by omega), if_neg (by omega)] at hc
        exact absurd (nI_le (Nat.le_refl _) (by omega)) hc
  · rw [if_neg (fun w => hn (okN_vp.mpr w))] at h
    exact h S hS (SO_rf mo S)
end MOPS5
