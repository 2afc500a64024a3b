/-! ===== plans ===== -/
def cw (q : Nat → Nat) (M : Nat) (F : Nat → Nat) (p k r : Nat) : Nat := if r < stN (q (3 + 15 * p)) k then M else q (5 + 15 * p) * k + F (r - stN (q (3 + 15 * p)) k)
def mnK (q : Nat → Nat) (M : Nat) (F : Nat → Nat) (p r : Nat) : Nat → Nat
  | 0 => M
  | k + 1 => min (mnK q M F p r k) (cw q M F p (k + 1) r)
def bm (q : Nat → Nat) (M : Nat) : Nat → Nat → Nat
  | 0, _ => 0
  | d + 1, r => mnK q M (bm q M d) (q 2 - 1 - d) r (q 0)
theorem mnK_le (q : Nat → Nat) (M : Nat) (F : Nat → Nat) (p r : Nat) : ∀ k, mnK q M F p r k ≤ M
  | 0 => Nat.le_refl _
  | k + 1 => Nat.le_trans (Nat.min_le_left _ _) (mnK_le q M F p r k)
theorem bm_le (q : Nat → Nat) (M d r : Nat) : bm q M d r ≤ M := by
  cases d with
  | zero => exact Nat.zero_le _
  | succ d => exact mnK_le _ _ _ _ _ _
theorem cw_two {q : Nat → Nat} (hV : V q) {M N : Nat} {F G : Nat → Nat} {p b : Nat} (hp : p < q 2) (h : ∀ r, (F r = M ∧ G r = N) ∨ (F r = G r ∧ F r ≤ b)) (k r : Nat) (hk : k ≤ 8) : (M ≤ cw q M F p k r ∧ N ≤ cw q N G p k r) ∨ (cw q M F p k r = cw q N G p k r ∧ cw q M F p k r ≤ b + 72) := by
  have hw := (hV.2.2.2.1 p hp).2.2.1.2
  have hm : q (5 + 15 * p) * k ≤ 9 * 8 := Nat.mul_le_mul hw hk
  unfold cw
  split
  · exact Or.inl ⟨Nat.le_refl _, Nat.le_refl _⟩
  · rcases h (r - stN (q (3 + 15 * p)) k) with ⟨h1, h2⟩ | ⟨h1, h2⟩
    · rw [h1, h2]
      exact Or.inl ⟨by omega, by omega⟩
    · rw [h1]
      exact Or.inr ⟨rfl, by omega⟩
theorem mnK_two {q : Nat → Nat} (hV : V q) {M N : Nat} {F G : Nat → Nat} {p b : Nat} (hp : p < q 2) (hM : b + 72 < M) (hN : b + 72 < N) (h : ∀ r, (F r = M ∧ G r = N) ∨ (F r = G r ∧ F r ≤ b)) (r : Nat) : ∀ k, k ≤ 8 → (mnK q M F p r k = M ∧ mnK q N G p r k = N) ∨ (mnK q M F p r k = mnK q N G p r k ∧ mnK q M F p r k ≤ b + 72)
  | 0, _ => Or.inl ⟨rfl, rfl⟩
  | k + 1, hk => by
    have ih := mnK_two hV hp hM hN h r k (by omega)
    have hc := cw_two hV hp h (k + 1) r hk
    unfold mnK
    omega
theorem bm_two {q : Nat → Nat} (hV : V q) {M N : Nat} (hM : 1000 ≤ M) (hN : 1000 ≤ N) : ∀ d, d ≤ q 2 → ∀ r, (bm q M d r = M ∧ bm q N d r = N) ∨ (bm q M d r = bm q N d r ∧ bm q M d r ≤ 72 * d)
  | 0, _, _ => Or.inr ⟨rfl, Nat.le_refl _⟩
  | d + 1, hd, r => by
    have h6 := hV.2.2.1
    have ih := bm_two hV hM hN d (by omega)
    have := mnK_two hV (p := q 2 - 1 - d) (by omega) (by omega) (by omega) ih r (q 0) hV.1.2
    unfold bm
    omega
/-- the lowest need that keeps the cost -/
def NK (q : Nat → Nat) (M p r k : Nat) : Prop := 1 ≤ k ∧ cw q M (bm q M (q 2 - 1 - p)) p k r = bm q M (q 2 - p) r ∧ ∀ k', 1 ≤ k' → k' < k → cw q M (bm q M (q 2 - 1 - p)) p k' r ≠ bm q M (q 2 - p) r
theorem NK_un {q : Nat → Nat} {M p r k k' : Nat} (h : NK q M p r k) (h' : NK q M p r k') : k = k' := by
  rcases Nat.lt_trichotomy k k' with g | g | g
  · exact absurd h.2.1 (h'.2.2 k h.1 g)
  · exact g
  · exact absurd h'.2.1 (h.2.2 k' h'.1 g)
theorem mnK_at {q : Nat → Nat} {M : Nat} {F : Nat → Nat} {p r : Nat} : ∀ k, mnK q M F p r k < M → ∃ k', 1 ≤ k' ∧ k' ≤ k ∧ cw q M F p k' r = mnK q M F p r k
  | 0, h => absurd h (Nat.lt_irrefl _)
  | k + 1, h => by
    unfold mnK at h ⊢
    by_cases hc : mnK q M F p r k ≤ cw q M F p (k + 1) r
    · rw [Nat.min_eq_left hc] at h ⊢
      obtain ⟨k', h1, h2, h3⟩ := mnK_at k h
      exact ⟨k', h1, by omega, h3⟩
    · rw [Nat.min_eq_right (by omega)]
      exact ⟨k + 1, by omega, Nat.le_refl _, rfl⟩
theorem bm_s {q : Nat → Nat} {M p r : Nat} (hp : p < q 2) : bm q M (q 2 - p) r = mnK q M (bm q M (q 2 - 1 - p)) p r (q 0) := by
  rw [show q 2 - p = (q 2 - 1 - p) + 1 by omega, bm, show q 2 - 1 - (q 2 - 1 - p) = p by omega]
theorem NK_ex {q : Nat → Nat} {M p r : Nat} (hp : p < q 2) (h : bm q M (q 2 - p) r < M) : ∃ k, k ≤ q 0 ∧ NK q M p r k := by
  rw [bm_s hp] at h
  obtain ⟨k', h1, h2, h3⟩ := mnK_at (q 0) h
  obtain ⟨k, ⟨hk1, hk2⟩, hmin⟩ := pk_least (fun k => 1 ≤ k ∧ cw q M (bm q M (q 2 - 1 - p)) p k r = mnK q M (bm q M (q 2 - 1 - p)) p r (q 0)) ⟨k', h1, h3⟩
  refine ⟨k, ?_, hk1, by rw [bm_s hp]; exact hk2, fun j j1 j2 e => hmin j j2 ⟨j1, by rw [bm_s hp] at e; exact e⟩⟩
  exact Nat.not_lt.mp fun w => hmin k' (by omega) ⟨h1, h3⟩
noncomputable def kS (q : Nat → Nat) (p r : Nat) : Nat := Classical.epsilon (NK q 100000 p r)
theorem kS_eq {q : Nat → Nat} {p r k : Nat} (h : NK q 100000 p r k) : kS q p r = k := NK_un (Classical.epsilon_spec (p := NK q 100000 p r) ⟨k, h⟩) h
noncomputable def rmS (q : Nat → Nat) : Nat → Nat
  | 0 => q 1
  | p + 1 => rmS q p - stN (q (3 + 15 * p)) (kS q p (rmS q p))
/-- the cost that is left when the first parts are chosen: still no dearer than the least -/
theorem rm_ok {q : Nat → Nat} (h : bm q 100000 (q 2) (q 1) < 100000) : ∀ p, p ≤ q 2 → bm q 100000 (q 2 - p) (rmS q p) < 100000
  | 0, _ => h
  | p + 1, hp => by
    have ih := rm_ok h p (by omega)
    obtain ⟨k, hk0, hk⟩ := NK_ex (by omega) ih
    have e := kS_eq hk
    have h2 := hk.2.1
    unfold rmS
    rw [e]
    rw [← h2] at ih
    unfold cw at ih
    split at ih
    · omega
    · rw [show q 2 - 1 - p = q 2 - (p + 1) by omega] at ih
      omega
noncomputable def oPlan (q : Nat → Nat) (p : Int32) : Int32 := if okN p (q 2) then (if bm q 100000 (q 2) (q 1) < 100000 then nI (kS q (tn p) (rmS q (tn p))) else -1) else -2
def oPlans (q : Nat → Nat) : Int32 := if bm q 100000 (q 2) (q 1) < 100000 then nI (bm q 100000 (q 2) (q 1)) else -1
theorem rm_le {q : Nat → Nat} : ∀ p, rmS q p ≤ q 1
  | 0 => Nat.le_refl _
  | p + 1 => by
    have := rm_le (q := q) p
    unfold rmS
    omega
section MPLAN
variable {S : Hp} {mo : Nat} {σ : Sg} {q : Nat → Nat}
theorem MS_7 {g : Nat → Int32} (h : MS S mo σ) : MS (setA S (mo + 7) g) mo σ := by
  obtain ⟨hM, hR, ⟨hu, hu8, hus⟩, ⟨ht1, ht2, ht3⟩, hw⟩ := h
  refine ⟨hM, fun i hi => ?_, ⟨?_, hu8, fun j u hj k hk => ?_⟩, ⟨?_, ht2, fun i hi => ⟨?_, (ht3 i hi).2⟩⟩, fun i hi => ?_⟩
  · rw [gI_setA, if_neg (by omega)]
    exact hR i hi
  · rw [gI_setA, if_neg (by omega)]
    exact hu
  · rw [gI_setA, if_neg (by omega)]
    exact hus j u hj k hk
  · rw [gI_setA, if_neg (by omega)]
    exact ht1
  · rw [gI_setA, if_neg (by omega)]
    exact (ht3 i hi).1
  · rw [gI_setA, if_neg (by omega)]
    exact hw i hi
theorem MR_7 {g : Nat → Int32} (hR : MR S mo q) : MR (setA S (mo + 7) g) mo q := fun j hj => by
  rw [gI_setA, if_neg (by omega)]
  exact hR j hj
theorem m_cost {p k r : Nat} {Q : Int32 → Prop} (hM : MK S mo) (hR : MR S mo q) (hV : V q) (hp : p < q 2) (hk1 : 1 ≤ k) (hk8 : k ≤ 8) (hr : r ≤ 40) (hg : ∀ r, r < 41 → gI S 0 (mo + 7) (41 * (p + 1) + r) = nI (bm q 100000 (q 2 - 1 - p) r)) (h : Q (nI (cw q 100000 (bm q 100000 (q 2 - 1 - p)) p k r))) : wp_X12_cost mo (nI p) (nI k) (nI r) S Q := by
  obtain ⟨k0, ⟨r1, k1, l1⟩, -, -, -, -, -, ⟨r7, k7, l7⟩⟩ := id hM
  have h6 := hV.2.2.1
  have hv := hV.2.2.2.1 p hp
  have e0 : (3 : Int32) + 15 * nI p + 0 = nI (3 + 15 * p) := by
    rw [li_3, li_15, li_0, pk_mul, nI_add, nI_add]
    rfl
  have e2 : (3 : Int32) + 15 * nI p + 2 = nI (5 + 15 * p) := by
    rw [li_3, li_15, li_2, pk_mul, nI_add, nI_add]
    congr 1
    omega
  have hst := stN_le (l := q (3 + 15 * p)) (k := k) hv.1.2 hk1
  refine ⟨k0, _, r1, k1, by rw [e0, l1]; exact vp_li (by omega) (by omega), ?_⟩
  rw [e0, nI_clamp (by omega), hR _ (by omega)]
  refine m_stripes (by omega) hk1 (by omega) ?_
  rintro _ rfl
  unfold cw at h
  have est : (q (3 + 15 * p) + k - 1) / k = stN (q (3 + 15 * p)) k := rfl
  rw [est]
  by_cases hlt : r < stN (q (3 + 15 * p)) k
  · rw [if_pos hlt] at h
    refine ⟨fun hc => ?_, fun _ => h⟩
    rw [Int32.le_iff_toInt_le, pk_sub_toInt (by omega) (by omega)] at hc
    have : (0 : Int32).toInt = 0 := rfl
    omega
  · rw [if_neg hlt] at h
    rw [pk_sub (by omega)]
    refine ⟨fun _ => ⟨k0, _, r1, k1, by rw [e2, l1]; exact vp_li (by omega) (by omega), k0, _, r7, k7, ?_, ?_⟩, fun hc => absurd (nI_pos' (by omega)) hc⟩
    · rw [nI_1, li_41, pk_mul, nI_add, l7]
      exact vp_li (by omega) (by omega)
    · rw [e2, nI_clamp (by omega), hR _ (by omega), nI_1, li_41, pk_mul, pk_mul, nI_add, nI_clamp (by omega), hg _ (by omega), nI_add]
      exact h
theorem M_plans {Q : Int32 → Hp → Prop} (hM : MK S mo) (hR : MR S mo q) (hV : V q) (h : ∀ g : Nat → Int32, (∀ p, p ≤ q 2 → ∀ r, r < 41 → g (41 * p + r) = nI (bm q 100000 (q 2 - p) r)) → Q (oPlans q) (setA S (mo + 7) g)) : wp_X12_plans mo S Q := by
  obtain ⟨k0, ⟨r1, k1, l1⟩, -, -, -, -, -, ⟨r7, k7, l7⟩⟩ := id hM
  have h6 := hV.2.2.1
  have h0 := hV.1
  have h1 := hV.2.1
  -- over the parts
  have main : ∀ i g, i ≤ q 2 → (∀ p, i ≤ p → p ≤ q 2 → ∀ r, r < 41 → g (41 * p + r) = nI (bm q 100000 (q 2 - p) r)) → wp_X12_plans_40 Q mo (dn i) (setA S (mo + 7) g) := by
    intro i g hi hg
    refine Lp_of (fun n y => ∃ i g, i ≤ q 2 ∧ i = n ∧ y = (dn i, setA S (mo + 7) g) ∧ (∀ p, i ≤ p → p ≤ q 2 → ∀ r, r < 41 → g (41 * p + r) = nI (bm q 100000 (q 2 - p) r))) (fun n y hy K hK => ?_) (n := i) (x := (dn i, setA S (mo + 7) g)) ⟨i, g, hi, rfl, rfl, hg⟩
    obtain ⟨i, g, hi, rfl, rfl, hg⟩ := hy
    have hM' : MK (setA S (mo + 7) g) mo := hM
    refine ⟨fun hc => ?_, fun hc => ?_⟩
    · dsimp only at hc ⊢
      rw [dn_lt0 (by omega)] at hc
      subst hc
      have e : gI (setA S (mo + 7) g) 0 (mo + 1) (1 : Int32).toNatClampNeg = nI (q 1) := MR_7 hR 1 (by omega)
      refine ⟨k0, k0, _, r1, k1, by show vp_in _ (ln S (mo + 1)); rw [l1]; exact vp_li (n := 1) (by omega) (by omega), _, r7, k7, ?_, ?_⟩
      · rw [e]
        show vp_in _ (ln S (mo + 7))
        rw [l7]
        exact vp_li (by omega) (by omega)
      · rw [e, nI_clamp (by omega), setA_at]
        have hgr := hg 0 (Nat.le_refl _) (by omega) (q 1) (by omega)
        rw [show 41 * 0 + q 1 = q 1 by omega, Nat.sub_zero] at hgr
        rw [hgr]
        have hb := bm_le q 100000 (q 2) (q 1)
        have hQ := h g (fun p hp => hg p (by omega) hp)
        unfold oPlans at hQ
        rintro _ rfl
        refine ⟨fun hd => ?_, fun hd => ?_⟩
        · rw [li_100000, nI_leI (by omega) (by omega)] at hd
          rw [if_neg (by omega)] at hQ
          exact hQ
        · rw [li_100000, nI_leI (by omega) (by omega)] at hd
          rw [if_pos (by omega)] at hQ
          exact hQ
    · dsimp only at hc ⊢
      rw [dn_lt0 (by omega)] at hc
      obtain ⟨p, rfl⟩ : ∃ p, i = p + 1 := ⟨i - 1, by omega⟩
      rw [dn_s]
      refine Lp_of (fun n y => ∃ r g, r ≤ 41 ∧ n = 41 - r ∧ y = (nI r, setA S (mo + 7) g) ∧ (∀ p', p + 1 ≤ p' → p' ≤ q 2 → ∀ r, r < 41 → g (41 * p' + r) = nI (bm q 100000 (q 2 - p') r)) ∧ ∀ r', r' < r → g (41 * p + r') = nI (bm q 100000 (q 2 - p) r')) (fun n y hy K2 hK2 => ?_) (n := 41) (x := (nI 0, setA S (mo + 7) g)) ⟨0, g, by omega, rfl, rfl, hg, fun r' hr' => by omega⟩
      obtain ⟨r, g, hr, rfl, rfl, hg, hgr⟩ := hy
      refine ⟨fun hd => ?_, fun hd => ?_⟩
      · dsimp only at hd ⊢
        rw [li_41, nI_leI (by omega) (by omega)] at hd
        rintro _ rfl
        rw [dn_m]
        refine hK _ p (by omega) ⟨p, g, by omega, rfl, rfl, fun p' h1 h2 r' hr' => ?_⟩
        by_cases e : p' = p
        · subst e
          exact hgr r' (by omega)
        · exact hg p' (by omega) h2 r' hr'
      · dsimp only at hd ⊢
        rw [li_41, nI_leI (by omega) (by omega)] at hd
        have hM2 : MK (setA S (mo + 7) g) mo := hM
        refine Lp_for (fun k => (nI (mnK q 100000 (bm q 100000 (q 2 - 1 - p)) p r k), nI (k + 1), setA S (mo + 7) g)) (q 0) (fun k hk K3 hK3 => ?_) (fun K3 => ?_) (i := 0) (by omega)
        · refine m_rd 0 hM2 li_0 (by omega) ?_
          rw [m_rv 0 (MR_7 hR) li_0 (by omega)]
          have hml := mnK_le q 100000 (bm q 100000 (q 2 - 1 - p)) p r k
          refine ⟨fun he => ?_, fun _ => ⟨k0, m_cost hM2 (MR_7 hR) hV (by omega) (by omega) (by omega) (by omega) (fun r hr => ?_) ?_⟩⟩
          · dsimp only at he
            rw [nI_ltI (by omega) (by omega)] at he
            omega
          · rw [setA_at, hg (p + 1) (by omega) (by omega) r hr, show q 2 - (p + 1) = q 2 - 1 - p by omega]
          · have hcw : cw q 100000 (bm q 100000 (q 2 - 1 - p)) p (k + 1) r < 2 ^ 31 := by
              have hw := (hV.2.2.2.1 p (by omega)).2.2.1.2
              have hm : q (5 + 15 * p) * (k + 1) ≤ 9 * 8 := Nat.mul_le_mul hw (by omega)
              unfold cw
              split
              · omega
              · have := bm_le q 100000 (q 2 - 1 - p) (r - stN (q (3 + 15 * p)) (k + 1))
                omega
            refine ⟨fun he => ?_, fun he => ?_⟩
            · dsimp only at he
              rw [nI_leI (by omega) hcw] at he
              rintro _ rfl
              dsimp only
              rw [nI_1]
              rw [mnK, Nat.min_eq_left he] at hK3
              exact hK3
            · dsimp only at he
              rw [nI_leI (by omega) hcw] at he
              rintro _ rfl
              dsimp only
              rw [nI_1]
              rw [mnK, Nat.min_eq_right (by omega)] at hK3
              exact hK3
        · refine m_rd 0 hM2 li_0 (by omega) ?_
          rw [m_rv 0 (MR_7 hR) li_0 (by omega)]
          refine ⟨fun _ => ⟨k0, _, r7, k7, ?_, ?_⟩, fun he => absurd (nI_lt (Nat.lt_succ_self _) (by omega)) he⟩
          · rw [li_41, pk_mul, nI_add]
            show vp_in _ (ln S (mo + 7))
            rw [l7]
            exact vp_li (by omega) (by omega)
          · rintro _ rfl _ rfl
            dsimp only
            rw [li_41, pk_mul, nI_add, nI_clamp (by omega), setA_sI, nI_1]
            refine hK2 _ (41 - (r + 1)) (by omega) ⟨r + 1, _, by omega, rfl, rfl, fun p' h1 h2 r' hr' => ?_, fun r' hr' => ?_⟩
            · rw [va_up_ne _ _ (by omega)]
              exact hg p' h1 h2 r' hr'
            · by_cases e : r' = r
              · subst e
                rw [va_up_self, bm_s (by omega)]
              · rw [va_up_ne _ _ (by omega)]
                exact hgr r' (by omega)
  have key := Lp_of (B := fun K y => wb_X12_plans_2 (fun w0 w1 => K (w0, w1)) Q mo y.1 y.2) (fun n y => ∃ r g, r ≤ 41 ∧ n = 41 - r ∧ y = (nI r, setA S (mo + 7) g) ∧ ∀ j, j < r → g (41 * q 2 + j) = 0) (fun n y hy K hK => ?_) (n := 41) (x := (nI 0, S)) ⟨0, gI S 0 (mo + 7), by omega, rfl, by rw [setA_self], fun j hj => by omega⟩
  · exact key
  · obtain ⟨r, g, hr, rfl, rfl, hg⟩ := hy
    have e2 : gI (setA S (mo + 7) g) 0 (mo + 1) (2 : Int32).toNatClampNeg = nI (q 2) := MR_7 hR 2 (by omega)
    refine ⟨fun hc => ⟨k0, _, r1, k1, by show vp_in _ (ln S (mo + 1)); rw [l1]; exact vp_li (n := 2) (by omega) (by omega), ?_⟩, fun hc => ⟨k0, k0, _, r1, k1, by show vp_in _ (ln S (mo + 1)); rw [l1]; exact vp_li (n := 2) (by omega) (by omega), _, r7, k7, ?_, ?_⟩⟩
    · dsimp only at hc ⊢
      rw [li_41, nI_leI (by omega) (by omega)] at hc
      rw [e2]
      rintro _ rfl
      refine main (q 2) g (Nat.le_refl _) (fun p h1 h2 r' hr' => ?_)
      obtain rfl : p = q 2 := by omega
      rw [Nat.sub_self]
      exact hg r' (by omega)
    · dsimp only at hc ⊢
      rw [li_41, nI_leI (by omega) (by omega)] at hc
      rw [e2, li_41, pk_mul, nI_add]
      show vp_in _ (ln S (mo + 7))
      rw [l7]
      exact vp_li (by omega) (by omega)
    · dsimp only at hc ⊢
      rw [li_41, nI_leI (by omega) (by omega)] at hc
      rw [e2, li_41, pk_mul, nI_add, nI_clamp (by omega)]
      rintro _ rfl _ rfl
      rw [setA_sI, nI_1]
      refine hK _ (41 - (r + 1)) (by omega) ⟨r + 1, _, by omega, rfl, rfl, fun j hj => ?_⟩
      by_cases e : j = r
      · subst e
        rw [va_up_self]
      · rw [va_up_ne _ _ (by omega)]
        exact hg j (by omega)
theorem M_plan {Q : Int32 → Hp → Prop} {x : Int32} (hS : MS S mo σ) (hV : V σ.1) (h : ∀ S', MS S' mo σ → SO mo S S' → Q (oPlan σ.1 x) S') : wp_X12_plan mo x S Q := by
  have h6 := hV.2.2.1
  unfold oPlan at h
  refine ⟨hS.1.1, m_isPart hS.1 hS.2.1 h6 (fun p hp hx => ⟨fun _ => ⟨hS.1.1, M_plans hS.1 hS.2.1 hV fun g hg => ?_⟩, fun w => absurd w (by decide)⟩) (fun hn => ⟨fun w => absurd rfl w, fun _ => ?_⟩)⟩
  · subst hx
    rw [if_pos ((okN_nI (by omega)).mpr hp), tn_nI (by omega)] at h
    have hfin : ∀ v, v = (if bm σ.1 100000 (σ.1 2) (σ.1 1) < 100000 then nI (kS σ.1 p (rmS σ.1 p)) else -1) → Q v (setA S (mo + 7) g) := fun v hv => by
      rw [hv]
      exact h _ (MS_7 hS) (SO_setA ⟨by omega, by omega⟩)
    have hM := hS.1
    have hR := hS.2.1
    generalize σ.1 = q at *
    obtain ⟨k0, ⟨r1, k1, l1⟩, -, -, -, -, -, ⟨r7, k7, l7⟩⟩ := id hM
    have h0 := hV.1
    have h1 := hV.2.1
    have hM' : MK (setA S (mo + 7) g) mo := hM
    unfold oPlans
    by_cases hfit : bm q 100000 (q 2) (q 1) < 100000
    · rw [if_pos hfit]
      rw [if_pos hfit] at hfin
      have hne : nI (bm q 100000 (q 2) (q 1)) ≠ -1 := fun e => by
        have := congrArg Int32.toInt e
        rw [nI_toInt (by omega)] at this
        have e1 : (-1 : Int32).toInt = -1 := rfl
        omega
      refine ⟨fun _ => m_rd 1 hM' li_1 (by omega) ?_, fun e => absurd e hne⟩
      rw [m_rv 1 (MR_7 hR) li_1 (by omega)]
      rintro _ rfl
      refine Lp_of (fun n y => ∃ p' v, p' ≤ p + 1 ∧ n = p + 1 - p' ∧ y = (nI (rmS q p'), v, nI p', setA S (mo + 7) g) ∧ (p' = p + 1 → v = nI (kS q p (rmS q p)))) (fun n y hy K hK => ?_) (n := p + 1) (x := (nI (q 1), 0, nI 0, setA S (mo + 7) g)) ⟨0, 0, by omega, rfl, rfl, fun e => by omega⟩
      obtain ⟨p', v, hp', rfl, rfl, hv⟩ := hy
      refine ⟨fun hc => ?_, fun hc => ?_⟩
      · dsimp only at hc ⊢
        rw [nI_ltI (by omega) (by omega)] at hc
        rw [hv (by omega)]
        exact hfin _ rfl
      · dsimp only at hc ⊢
        rw [nI_ltI (by omega) (by omega)] at hc
        have hrm := rm_le (q := q) p'
        have hok := rm_ok hfit p' (by omega)
        obtain ⟨k, hk0, hk⟩ := NK_ex (by omega) hok
        have hke := kS_eq hk
        have hk2 := hk.2.1
        have hge : stN (q (3 + 15 * p')) k ≤ rmS q p' := by
          rw [← hk2] at hok
          unfold cw at hok
          split at hok <;> omega
        refine Lp_of (fun n y => ∃ j, 1 ≤ j ∧ j ≤ k ∧ n = k - j ∧ y = (nI j, setA S (mo + 7) g)) (fun n y hy K2 hK2 => ?_) (n := k - 1) (x := (nI 1, setA S (mo + 7) g)) ⟨1, by omega, hk.1, rfl, rfl⟩
        obtain ⟨j, hj1, hjk, rfl, rfl⟩ := hy
        have hvp := hV.2.2.2.1 p' (by omega)
        have e0 : (3 : Int32) + 15 * nI p' + 0 = nI (3 + 15 * p') := by
          rw [li_3, li_15, li_0, pk_mul, nI_add, nI_add]
          rfl
        refine ⟨k0, m_cost hM' (MR_7 hR) hV (by omega) hj1 (by omega) (by omega) (fun r hr => ?_) ⟨k0, _, r7, k7, ?_, ?_⟩⟩
        · rw [setA_at, hg (p' + 1) (by omega) r hr, show q 2 - (p' + 1) = q 2 - 1 - p' by omega]
        · rw [li_41, pk_mul, nI_add]
          show vp_in _ (ln S (mo + 7))
          rw [l7]
          exact vp_li (by omega) (by omega)
        · have hcw : cw q 100000 (bm q 100000 (q 2 - 1 - p')) p' j (rmS q p') < 2 ^ 31 := by
            have hm : q (5 + 15 * p') * j ≤ 9 * 8 := Nat.mul_le_mul hvp.2.2.1.2 (by omega)
            unfold cw
            split
            · omega
            · have := bm_le q 100000 (q 2 - 1 - p') (rmS q p' - stN (q (3 + 15 * p')) j)
              omega
          rw [li_41, pk_mul, nI_add, nI_clamp (by omega), setA_at, hg p' (by omega) _ (by omega), nI_eq hcw (by omega)]
          refine ⟨fun he => ⟨k0, _, r1, k1, by rw [e0]; show vp_in _ (ln S (mo + 1)); rw [l1]; exact vp_li (by omega) (by omega), ?_⟩, fun he => ?_⟩
          · have ejk : j = k := by
              rcases Nat.lt_or_ge j k with g1 | g1
              · exact absurd he (hk.2.2 j hj1 g1)
              · omega
            subst ejk
            rw [e0, nI_clamp (by omega), MR_7 hR _ (by omega)]
            refine m_stripes (by omega) hj1 (by omega) ?_
            rintro _ rfl _ rfl
            dsimp only
            have est : (q (3 + 15 * p') + j - 1) / j = stN (q (3 + 15 * p')) j := rfl
            rw [est, pk_sub hge, nI_1]
            refine hK _ (p + 1 - (p' + 1)) (by omega) ⟨p' + 1, nI j, by omega, rfl, ?_, fun e => ?_⟩
            · rw [rmS, hke]
            · obtain rfl : p' = p := by omega
              rw [hke]
          · rintro _ rfl
            dsimp only
            rw [nI_1]
            have : j ≠ k := fun e => he (e ▸ hk2)
            exact hK2 _ (k - (j + 1)) (by omega) ⟨j + 1, by omega, by omega, rfl, rfl⟩
    · rw [if_neg hfit]
      rw [if_neg hfit] at hfin
      exact ⟨fun w => absurd rfl w, fun _ => hfin _ rfl⟩
  · rw [if_neg (fun w => hn (okN_vp.mpr w))] at h
    exact h S hS (SO_rf mo S)
noncomputable def oCount (σ : Sg) (w : Int32) : Int32 := if w = 0 then nI (σ.1 2) else if w = 1 then nI (σ.1 0) else if w = 2 then nI (σ.1 1) else if w = 3 then nI (lenS σ.1 63 (σ.1 2)) else if w = 4 then bb (fitB σ.1) else if w = 5 then nI (costS σ.1 (σ.1 2)) else if w = 6 then oPlans σ.1 else if w = 7 then nI (σ.1 93) else if w = 8 then nI (σ.1 94) else if w = 9 then nI (σ.1 95) else if w = 10 then nI (lostS σ.1 (σ.1 94)) else if w = 11 then nI (inS σ.1 0 (σ.1 93)) else if w = 12 then nI (inS σ.1 2 (σ.1 93)) else if w = 13 then nI σ.2.1.length else if w = 14 then nI σ.2.2.2 else -3
theorem M_count {Q : Int32 → Hp → Prop} {w : Int32} (hS : MS S mo σ) (hV : V σ.1) (h : ∀ S', MS S' mo σ → SO mo S S' → Q (oCount σ w) S') : wp_X12_count mo w S Q := by
  have hM := hS.1
  have hR := hS.2.1
  have h0 : Q (oCount σ w) S := h S hS (SO_rf mo S)
  unfold oCount at h h0
  refine ⟨fun e => m_rd 2 hM li_2 (by omega) ?_, fun e0 => ⟨fun e => m_rd 0 hM li_0 (by omega) ?_, fun e1 => ⟨fun e => m_rd 1 hM li_1 (by omega) ?_, fun e2 => ⟨fun e => ⟨hM.1, ?_⟩, fun e3 => ⟨fun e => ⟨hM.1, m_isFit hM hR hV ⟨fun hb => ?_, fun hb => ?_⟩⟩, fun e4 => ⟨fun e => ⟨hM.1, m_weights hM hR hV ?_⟩, fun e5 => ⟨fun e => ⟨hM.1, M_plans hM hR hV fun g _ => ?_⟩, fun e6 => ⟨fun e => m_rd 93 hM li_93 (by omega) ?_, fun e7 => ⟨fun e => m_rd 94 hM li_94 (by omega) ?_, fun e8 => ⟨fun e => m_rd 95 hM li_95 (by omega) ?_, fun e9 => ⟨fun e => ⟨hM.1, m_lostMany hM hR hV ?_⟩, fun e10 => ⟨fun e => ⟨hM.1, M_inState (st := 0) hM hR hV (by omega) fun g5 g6 => ?_⟩, fun e11 => ⟨fun e => ⟨hM.1, M_inState (st := 2) hM hR hV (by omega) fun g5 g6 => ?_⟩, fun e12 => ⟨fun e => ⟨hM.1, ?_⟩, fun e13 => ⟨fun e => ⟨hM.1, ?_⟩, fun e14 => ?_⟩⟩⟩⟩⟩⟩⟩⟩⟩⟩⟩⟩⟩⟩⟩
  · rw [m_rv 2 hR li_2 (by omega)]
    rw [if_pos e] at h0
    exact h0
  · rw [m_rv 0 hR li_0 (by omega)]
    rw [if_neg e0, if_pos e] at h0
    exact h0
  · rw [m_rv 1 hR li_1 (by omega)]
    rw [if_neg e0, if_neg e1, if_pos e] at h0
    exact h0
  · rw [if_neg e0, if_neg e1, if_neg e2, if_pos e] at h0
    exact m_lengthOf hM hR hV 63 (by omega) h0
  · rw [if_neg e0, if_neg e1, if_neg e2, if_neg e3, if_pos e, hb] at h0
    exact h0
  · rw [if_neg e0, if_neg e1, if_neg e2, if_neg e3, if_pos e, (bb01 _).resolve_left hb] at h0
    exact h0
  · rw [if_neg e0, if_neg e1, if_neg e2, if_neg e3, if_neg e4, if_pos e] at h0
    exact h0
  · rw [if_neg e0, if_neg e1, if_neg e2, if_neg e3, if_neg e4, if_neg e5, if_pos e] at h
    exact h _ (MS_7 hS) (SO_setA ⟨by omega, by omega⟩)
  · rw [m_rv 93 hR li_93 (by omega)]
    rw [if_neg e0, if_neg e1, if_neg e2, if_neg e3, if_neg e4, if_neg e5, if_neg e6, if_pos e] at h0
    exact h0
  · rw [m_rv 94 hR li_94 (by omega)]
    rw [if_neg e0, if_neg e1, if_neg e2, if_neg e3, if_neg e4, if_neg e5, if_neg e6, if_neg e7, if_pos e] at h0
    exact h0
  · rw [m_rv 95 hR li_95 (by omega)]
    rw [if_neg e0, if_neg e1, if_neg e2, if_neg e3, if_neg e4, if_neg e5, if_neg e6, if_neg e7, if_neg e8, if_pos e] at h0
    exact h0
  · rw [if_neg e0, if_neg e1, if_neg e2, if_neg e3, if_neg e4, if_neg e5, if_neg e6, if_neg e7, if_neg e8, if_neg e9, if_pos e] at h0
    exact h0
  · rw [if_neg e0, if_neg e1, if_neg e2, if_neg e3, if_neg e4, if_neg e5, if_neg e6, if_neg e7, if_neg e8, if_neg e9, if_neg e10, if_pos e] at h
    exact h _ (MS_LH hS) (LH_so _ _)
  · rw [if_neg e0, if_neg e1, if_neg e2, if_neg e3, if_neg e4, if_neg e5, if_neg e6, if_neg e7, if_neg e8, if_neg e9, if_neg e10, if_neg e11, if_pos e] at h
    exact h _ (MS_LH hS) (LH_so _ _)
  · rw [if_neg e0, if_neg e1, if_neg e2, if_neg e3, if_neg e4, if_neg e5, if_neg e6, if_neg e7, if_neg e8, if_neg e9, if_neg e10, if_neg e11, if_neg e12, if_pos e] at h0
    rw [hS.2.2.1.1]
    exact h0
  · rw [if_neg e0, if_neg e1, if_neg e2, if_neg e3, if_neg e4, if_neg e5, if_neg e6, if_neg e7, if_neg e8, if_neg e9, if_neg e10, if_neg e11, if_neg e12, if_neg e13, if_pos e] at h0
    rw [hS.2.2.2.1.1]
    exact h0
  · rw [if_neg e0, if_neg e1, if_neg e2, if_neg e3, if_neg e4, if_neg e5, if_neg e6, if_neg e7, if_neg e8, if_neg e9, if_neg e10, if_neg e11, if_neg e12, if_neg e13, if_neg e14] at h0
    exact h0
end MPLAN
