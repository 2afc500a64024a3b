/-! ===== the class: tell ===== -/
section CTELL
variable {S S' : Hp} {x : Nat} {σ : Sg} {T : Nat → Nat} {L : Nat} {q : Nat → Nat}
/-- the class' state while clauses are carried out -/
def CLn (S : Hp) (x : Nat) (q : Nat → Nat) (T : Nat → Nat) (L : Nat) : Prop := CK S x ∧ ((∀ a, sz S ≤ a → kd S a = 0) ∧ x + 111 ≤ sz S) ∧ (gI S 162 (x + 1) 0 = nI L ∧ ∀ i, i < L → gI S 0 (x + 2) i = nI (T i)) ∧ (∀ j, j < 8 → gI S 134 (x + 55 + 6 * j) 0 = 0 ∨ gI S 134 (x + 55 + 6 * j) 0 = 1) ∧ ∃ (bo nx : Nat) (wd : Nat → Prop), (gR S 183 x 0 = some bo ∧ (x + 111 ≤ bo ∨ bo = x + 49)) ∧ (nx < 8 ∧ gI S 146 (x + 53) 0 = nI nx) ∧ (∀ a, wd a → kd S a = 20) ∧ LineAt S wd (x + 111) (x + 29) q ∧ BoxAt S wd (x + 111) bo q
theorem CLn_of (hS : CS S x σ) : CLn S x σ.1 σ.2.2.1 σ.2.2.2 := by
  obtain ⟨hC, hz, ht, h01, bo, nx, wd, hb, ⟨hnx, h146, h147, hu⟩, hwk, hL, hB, hU⟩ := hS
  exact ⟨hC, hz, ht, h01, bo, nx, wd, hb, ⟨hnx, h146⟩, hwk, hL, hB⟩
theorem CLn_step {S2 : Hp} {q' : Nat → Nat} (h : CLn S x q T L) (hF : Fr (fun a => a ≠ x + 29 ∧ a ≠ x + 30 ∧ kd S a ≠ 0) S S2) (hz2 : (∀ a, sz S2 ≤ a → kd S2 a = 0) ∧ x + 111 ≤ sz S2) (hC2 : CK S2 x) (hq : ∀ k, 93 ≤ k → q' k = q k)
    (hl : ∀ wd : Nat → Prop, (∀ a, wd a → kd S a = 20) → LineAt S wd (x + 111) (x + 29) q → ∃ wd' : Nat → Prop, (∀ a, kd S a ≠ 0 → wd' a → wd a) ∧ (∀ a, wd' a → kd S2 a = 20) ∧ LineAt S2 wd' (x + 111) (x + 29) q') : CLn S2 x q' T L := by
  obtain ⟨hC, hz, ht, h01, bo, nx, wd, ⟨hb, hbo⟩, ⟨hnx, h146⟩, hwk, hL, hB⟩ := h
  obtain ⟨wd', hw2, hw3, hL2⟩ := hl wd hwk hL
  have hst := CK_st hC
  have k1 : ∀ {a k : Nat}, kd S a = k → k ≠ 0 → kd S a ≠ 0 := fun e n => by rw [e]; exact n
  have c53 : kd S (x + 53) = 10 := by
    obtain ⟨-, -, -, -, -, -, m1, -⟩ := hC
    exact m1
  refine ⟨hC2, hz2, ⟨gI_fr hF ⟨by omega, by omega, k1 hC.2.1.1 (by decide)⟩ ht.1, fun i hi => gI_fr hF ⟨by omega, by omega, k1 hC.2.1.2.2.1 (by decide)⟩ (ht.2 i hi)⟩, fun j hj => ?_, bo, nx, wd', ⟨gR_fr hF ⟨by omega, by omega, k1 hC.1.1 (by decide)⟩ hb, hbo⟩, ⟨hnx, gI_fr hF ⟨by omega, by omega, k1 c53 (by decide)⟩ h146⟩, hw3, hL2, ?_⟩
  · rw [(hF.2 _ ⟨by omega, by omega, k1 (hst j hj).1 (by decide)⟩ 134 0).1]
    exact h01 j hj
  · refine BoxAt_cg hq (BoxAt_fr hF (fun a h1 h2 => ⟨by omega, by omega, h2⟩) (fun t ht w => hw2 _ ?_ w) (fun a g1 g2 g3 => ⟨by omega, by omega, g3⟩) hB)
    rw [(hB.2.2.2.2.2.2 t ht).1.2.2.2.1.2.1]
    decide
theorem ck_3 {f m : Nat} (hck : ck T L f m ≠ 4) (hw : cwd T L f = 3) : (¬ wIs T L f 0 ∧ ¬ wIs T L f 1 ∧ ¬ wIs T L f 2) ∧ m < 6 ∧ wdOk T L (nF T L f) ∧ nmOk T L (nF T L (nF T L f)) 8 ∧ nmOk T L (nF T L (nF T L (nF T L f))) 9 := by
  unfold cwd at hw
  unfold ck at hck
  by_cases n0 : wIs T L f 0
  · rw [if_pos n0] at hw
    omega
  · rw [if_neg n0] at hw hck
    by_cases n1 : wIs T L f 1
    · rw [if_pos n1] at hw
      omega
    · rw [if_neg n1] at hw hck
      by_cases n2 : wIs T L f 2
      · rw [if_pos n2] at hw
        omega
      · rw [if_neg n2] at hck
        by_cases n3 : wIs T L f 3 ∧ m < 6
        · rw [if_pos n3] at hck
          by_cases a1 : wdOk T L (nF T L f)
          · rw [if_pos a1] at hck
            by_cases a2 : nmOk T L (nF T L (nF T L f)) 8
            · rw [if_pos a2] at hck
              by_cases a3 : nmOk T L (nF T L (nF T L (nF T L f))) 9
              · exact ⟨⟨n0, n1, n2⟩, n3.2, a1, a2, a3⟩
              · rw [if_neg a3] at hck
                exact absurd rfl hck
            · rw [if_neg a2] at hck
              exact absurd rfl hck
          · rw [if_neg a1] at hck
            exact absurd rfl hck
        · rw [if_neg n3] at hck
          exact absurd rfl hck
theorem ck_12 {f m w hi : Nat} (hck : ck T L f m ≠ 4) (hw : cwd T L f = w) (h12 : (w = 1 ∧ hi = 8) ∨ (w = 2 ∧ hi = 40)) : nmOk T L (nF T L f) hi ∧ cq T L f q = va_up q (w - 1) (vl T L (nF T L f)) := by
  unfold cwd at hw
  unfold ck at hck
  unfold cq
  by_cases n0 : wIs T L f 0
  · rw [if_pos n0] at hw
    omega
  · rw [if_neg n0] at hw hck ⊢
    by_cases n1 : wIs T L f 1
    · rw [if_pos n1] at hw hck ⊢
      obtain rfl : w = 1 := hw.symm
      obtain rfl : hi = 8 := by omega
      by_cases a1 : nmOk T L (nF T L f) 8
      · exact ⟨a1, rfl⟩
      · rw [if_neg a1] at hck
        exact absurd rfl hck
    · rw [if_neg n1] at hw hck ⊢
      by_cases n2 : wIs T L f 2
      · rw [if_pos n2] at hw hck ⊢
        obtain rfl : w = 2 := hw.symm
        obtain rfl : hi = 40 := by omega
        by_cases a1 : nmOk T L (nF T L f) 40
        · exact ⟨a1, rfl⟩
        · rw [if_neg a1] at hck
          exact absurd rfl hck
      · rw [if_neg n2] at hw
        omega
theorem pr_2 {f l n g : Nat} : partR T f l n g q 2 = q 2 + 1 := by
  unfold partR
  rw [wrdR_out (by omega), va_up_ne _ _ (by omega), va_up_ne _ _ (by omega), va_up_ne _ _ (by omega), va_up_self]
theorem pr_lo {f l n g k : Nat} (h : k < 3 + 15 * q 2) (h2 : k ≠ 2) : partR T f l n g q k = q k := by
  unfold partR
  rw [wrdR_out (by omega), va_up_ne _ _ (by omega), va_up_ne _ _ (by omega), va_up_ne _ _ (by omega), va_up_ne _ _ h2]
theorem pr_hi {f l n g k : Nat} (h : 6 + 15 * q 2 + l ≤ k) (h2 : k ≠ 2) : partR T f l n g q k = q k := by
  unfold partR
  rw [wrdR_out (by omega), va_up_ne _ _ (by omega), va_up_ne _ _ (by omega), va_up_ne _ _ (by omega), va_up_ne _ _ h2]
theorem pr_3 {f l n g : Nat} : partR T f l n g q (3 + 15 * q 2) = l := by
  unfold partR
  rw [wrdR_out (by omega), va_up_ne _ _ (by omega), va_up_ne _ _ (by omega), va_up_self]
theorem pr_4 {f l n g : Nat} : partR T f l n g q (4 + 15 * q 2) = n := by
  unfold partR
  rw [wrdR_out (by omega), va_up_ne _ _ (by omega), va_up_self]
theorem pr_5 {f l n g : Nat} : partR T f l n g q (5 + 15 * q 2) = g := by
  unfold partR
  rw [wrdR_out (by omega), va_up_self]
theorem pr_6 {f l n g j : Nat} (h : j < l) : partR T f l n g q (6 + 15 * q 2 + j) = T (f + j) - 97 := by
  unfold partR
  exact wrdR_in h
theorem CT_nw {k n : Nat} (hz : x + 111 ≤ sz S) (h : CT S x T L) : CT (nw S k n) x T L := by
  obtain ⟨⟨a1, a2, a3, a4⟩, ⟨b1, b2⟩, c1, c2, c3⟩ := h
  refine ⟨⟨?_, ?_, ?_, ?_⟩, ⟨?_, ?_⟩, ?_, c2, fun i hi => ⟨?_, (c3 i hi).2⟩⟩
  · rw [kd_nw, if_neg (by omega)]
    exact a1
  · rw [gR_nw, if_neg (by omega)]
    exact a2
  · rw [kd_nw, if_neg (by omega)]
    exact a3
  · rw [ln_nw, if_neg (by omega)]
    exact a4
  · rw [kd_nw, if_neg (by omega)]
    exact b1
  · rw [gR_nw, if_neg (by omega)]
    exact b2
  · rw [gI_nw, if_neg (by omega)]
    exact c1
  · rw [gI_nw, if_neg (by omega)]
    exact (c3 i hi).1
theorem CT_setA {a : Nat} {g : Nat → Int32} (ha : a ≠ x + 2) (h : CT S x T L) : CT (setA S a g) x T L := by
  obtain ⟨⟨a1, a2, a3, a4⟩, ⟨b1, b2⟩, c1, c2, c3⟩ := h
  refine ⟨⟨a1, a2, a3, a4⟩, ⟨b1, b2⟩, ?_, c2, fun i hi => ⟨?_, (c3 i hi).2⟩⟩
  · rw [gI_setA, if_neg (by omega)]
    exact c1
  · rw [gI_setA, if_neg (by omega)]
    exact (c3 i hi).1
abbrev PV (q : Nat → Nat) (p : Nat) : Prop := (1 ≤ q (3 + 15 * p) ∧ q (3 + 15 * p) ≤ 12) ∧ (1 ≤ q (4 + 15 * p) ∧ q (4 + 15 * p) ≤ 8) ∧ (1 ≤ q (5 + 15 * p) ∧ q (5 + 15 * p) ≤ 9) ∧ ∀ i, i < q (3 + 15 * p) → q (6 + 15 * p + i) ≤ 25
theorem V_line {q' : Nat → Nat} (hV : V q) (hk : ∀ k, 93 ≤ k → q' k = q k) (h0 : 1 ≤ q' 0 ∧ q' 0 ≤ 8) (h1 : 1 ≤ q' 1 ∧ q' 1 ≤ 40) (h2 : q' 2 ≤ 6) (hp : ∀ p, p < q' 2 → PV q' p) : V q' := by
  obtain ⟨-, -, -, -, v5, v6, v7, v8⟩ := hV
  refine ⟨h0, h1, h2, hp, ?_, fun p hp => ?_, fun t ht => ?_, fun t ht i hi => ?_⟩
  · rw [hk _ (by omega), hk _ (by omega), hk _ (by omega)]
    exact v5
  · rw [hk _ (by omega)] at hp
    rw [hk (96 + 3 * p) (by omega), hk (97 + 3 * p) (by omega), hk (98 + 3 * p) (by omega), hk 94 (by omega), hk 95 (by omega)]
    exact v6 p hp
  · rw [hk _ (by omega), hk _ (by omega), hk 95 (by omega)]
    exact v7 t ht
  · rw [hk _ (by omega), hk _ (by omega)]
    exact v8 t ht i hi
theorem V_cq {f : Nat} (hV : V q) (hf : f ≤ L) (hck : ck T L f (q 2) ≠ 4) : V (cq T L f q) := by
  obtain ⟨v0, v1, v2, v3, -⟩ := id hV
  have hc4 : cwd T L f = 0 ∨ cwd T L f = 1 ∨ cwd T L f = 2 ∨ cwd T L f = 3 := by
    unfold cwd
    split
    · exact Or.inl rfl
    · split
      · exact Or.inr (Or.inl rfl)
      · split
        · exact Or.inr (Or.inr (Or.inl rfl))
        · exact Or.inr (Or.inr (Or.inr rfl))
  rcases hc4 with hw | hw | hw | hw
  · have i0 : wIs T L f 0 := by
      by_cases w : wIs T L f 0
      · exact w
      · unfold cwd at hw
        rw [if_neg w] at hw
        split at hw
        · omega
        · split at hw <;> omega
    have hcq : cq T L f q = allR q := by unfold cq; rw [if_pos i0]
    have e0 : allR q 0 = 4 := by unfold allR; rw [va_up_ne _ _ (by omega), va_up_ne _ _ (by omega), va_up_self]
    have e1 : allR q 1 = 20 := by unfold allR; rw [va_up_ne _ _ (by omega), va_up_self]
    have e2 : allR q 2 = 0 := by unfold allR; rw [va_up_self]
    rw [hcq]
    refine V_line hV (fun k hk => ?_) (by omega) (by omega) (by omega) (fun p hp => by omega)
    unfold allR
    rw [va_up_ne _ _ (by omega), va_up_ne _ _ (by omega), va_up_ne _ _ (by omega)]
  · obtain ⟨hn, hcq⟩ := ck_12 (q := q) (w := 1) (hi := 8) hck hw (Or.inl ⟨rfl, rfl⟩)
    rw [hcq]
    have e : ∀ k, k ≠ 0 → va_up q (1 - 1) (vl T L (nF T L f)) k = q k := fun k hk => va_up_ne _ _ hk
    have e0 : va_up q (1 - 1) (vl T L (nF T L f)) 0 = vl T L (nF T L f) := va_up_self _ _ _
    refine V_line hV (fun k hk => e k (by omega)) (by rw [e0]; exact hn.2) (by rw [e 1 (by omega)]; exact v1) (by rw [e 2 (by omega)]; exact v2) (fun p hp => ?_)
    rw [e 2 (by omega)] at hp
    unfold PV
    rw [e _ (by omega), e _ (by omega), e _ (by omega)]
    obtain ⟨a1, a2, a3, a4⟩ := v3 p hp
    exact ⟨a1, a2, a3, fun i hi => by rw [e _ (by omega)]; exact a4 i hi⟩
  · obtain ⟨hn, hcq⟩ := ck_12 (q := q) (w := 2) (hi := 40) hck hw (Or.inr ⟨rfl, rfl⟩)
    rw [hcq]
    have e : ∀ k, k ≠ 1 → va_up q (2 - 1) (vl T L (nF T L f)) k = q k := fun k hk => va_up_ne _ _ hk
    have e0 : va_up q (2 - 1) (vl T L (nF T L f)) 1 = vl T L (nF T L f) := va_up_self _ _ _
    refine V_line hV (fun k hk => e k (by omega)) (by rw [e 0 (by omega)]; exact v0) (by rw [e0]; exact hn.2) (by rw [e 2 (by omega)]; exact v2) (fun p hp => ?_)
    rw [e 2 (by omega)] at hp
    unfold PV
    rw [e _ (by omega), e _ (by omega), e _ (by omega)]
    obtain ⟨a1, a2, a3, a4⟩ := v3 p hp
    exact ⟨a1, a2, a3, fun i hi => by rw [e _ (by omega)]; exact a4 i hi⟩
  · obtain ⟨⟨n0, n1, n2⟩, hm6, ⟨o1, o2, o3⟩, ⟨-, p1⟩, ⟨-, r1⟩⟩ := ck_3 hck hw
    have hcq : cq T L f q = partR T (nF T L f) (tE T L (nF T L f) - nF T L f) (vl T L (nF T L (nF T L f))) (vl T L (nF T L (nF T L (nF T L f)))) q := by unfold cq; rw [if_neg n0, if_neg n1, if_neg n2]
    rw [hcq]
    have heg := tE_gt (T := T) o1
    refine V_line hV (fun k hk => pr_hi (by omega) (by omega)) (by rw [pr_lo (by omega) (by omega)]; exact v0) (by rw [pr_lo (by omega) (by omega)]; exact v1) (by rw [pr_2]; omega) (fun p hp => ?_)
    rw [pr_2] at hp
    unfold PV
    by_cases e : p = q 2
    · subst e
      rw [pr_3, pr_4, pr_5]
      refine ⟨⟨by omega, o3⟩, p1, r1, fun i hi => ?_⟩
      rw [pr_6 hi]
      have := isSm_iff.mp (tE_alls o1 o2 (i := nF T L f + i) (by omega) (by omega))
      omega
    · obtain ⟨a1, a2, a3, a4⟩ := v3 p (by omega)
      rw [pr_lo (by omega) (by omega), pr_lo (by omega) (by omega), pr_lo (by omega) (by omega)]
      exact ⟨a1, a2, a3, fun i hi => by rw [pr_lo (by omega) (by omega)]; exact a4 i hi⟩
/-- a word's letters in an array of their own -/
theorem c_wordAt {Q : Nat → Hp → Prop} {f l : Nat} (h : CT S x T L) (hz : x + 111 ≤ sz S) (hl : l ≤ 12) (hfl : f + l ≤ L) (hs : ∀ i, i < l → isSm (T (f + i)) = true) (hQ : ∀ g : Nat → Int32, (∀ j, j < l → g j = nI (T (f + j) - 97)) → Q (sz S) (setA (nw S 20 l) (sz S) g)) : wp_X10_wordAt (x + 1) (nI f) (nI l) S Q := by
  have hL := h.2.2.2.1
  refine c_withinB (a := 0) (b := 12) rfl rfl (by omega) (fun j _ hj hx => ⟨fun z => absurd z (by decide), fun _ => ?_⟩) (fun hn => ?_)
  · refine ⟨Nat.le_refl _, by rw [nI_clamp (by omega)]; omega, nI_pos (by omega), by rw [nI_clamp (by omega)]; omega, ?_⟩
    rintro _ rfl _ rfl
    rw [nI_clamp (by omega)]
    have e0 : nw S 20 l = setA (nw S 20 l) (sz S) (gI (nw S 20 l) 0 (sz S)) := (setA_self _ _).symm
    refine Lp_of (fun n y => ∃ i g, i ≤ l ∧ n = l - i ∧ y = (nI i, setA (nw S 20 l) (sz S) g, 1 - 1, 12 - l) ∧ ∀ j, j < i → g j = nI (T (f + j) - 97)) (fun n y hy K hK => ?_) (n := l) (x := (nI 0, nw S 20 l, 1 - 1, 12 - l)) ⟨0, gI (nw S 20 l) 0 (sz S), by omega, rfl, by rw [← e0], fun j hj => absurd hj (Nat.not_lt_zero j)⟩
    obtain ⟨i, g, hi, rfl, rfl, hg⟩ := hy
    have kn : kd (setA (nw S 20 l) (sz S) g) (sz S) = 20 := by rw [kd_setA, kd_nw, if_pos rfl]
    have lnn : ln (setA (nw S 20 l) (sz S) g) (sz S) = l := by rw [ln_setA, ln_nw, if_pos rfl]
    have hC : CT (setA (nw S 20 l) (sz S) g) x T L := CT_setA (by omega) (CT_nw hz h)
    dsimp only
    refine ⟨kn, fun hc => ?_, fun hc => ⟨hC.1.1, ?_⟩⟩
    · rw [lnn, of_nI, nI_leI (by omega) (by omega)] at hc
      exact hQ g (fun j hj => hg j (by omega))
    · rw [lnn, of_nI, nI_leI (by omega) (by omega)] at hc
      have hsi := hs i (by omega)
      have hsi' := isSm_iff.mp hsi
      rw [nI_add]
      refine c_isSmallLetter hC (by omega) (fun hlt _ => ⟨fun z => absurd z (by decide), fun _ => ⟨hC.1.1, _, hC.1.2.1, hC.1.2.2.1, ?_, kn, ?_, ?_⟩⟩) (fun hn => absurd ⟨by omega, hsi⟩ hn)
      · rw [hC.1.2.2.2]
        exact vp_li (by omega) (by omega)
      · rw [lnn]
        exact vp_li (by omega) (by omega)
      · rintro _ rfl _ rfl
        rw [nI_clamp (by omega), nI_clamp (by omega), (hC.2.2.2.2 (f + i) hlt).1, li_97, pk_sub (by omega), setA_sI, nI_1]
        refine hK _ (l - (i + 1)) (by omega) ⟨i + 1, _, by omega, rfl, rfl, fun j hj => ?_⟩
        by_cases e : j = i
        · rw [e, va_up_self]
        · rw [va_up_ne _ _ e]
          exact hg j (by omega)
  · rw [nI_toInt (by omega)] at hn
    omega
theorem C_carry {Q : Hp → Prop} {f ca : Nat} (h : CLn S x q T L) (hL : L ≤ 200) (hT : ∀ i, i < L → T i ≤ 255) (hck : ck T L f (q 2) ≠ 4) (hf : f ≤ L) (hV : V q) (hca : kd S ca = 1) (hcx : x + 5 ≤ ca ∧ ca ≤ x + 28) (hcl : ClAt S ca T L f)
    (hQ : ∀ S', CLn S' x (cq T L f q) T L → KO x S S' → (∀ a, x + 3 ≤ a → a ≤ x + 28 → kd S' a = kd S a ∧ ln S' a = ln S a ∧ ∀ g i, gI S' g a i = gI S g a i ∧ gR S' g a i = gR S g a i) → Q S') : wp_X11_carryOut x ca S Q := by
  obtain ⟨hC, hz, ht, h01, bo, nx, wd, ⟨hb, hbo⟩, ⟨hnx, h146⟩, hwk, hLn, hB⟩ := id h
  obtain ⟨⟨f0, f1, f2, f3, f4, f5, f6⟩, t11, -, ⟨i1, i2⟩, -⟩ := id hC
  have hCT : CT S x T L := ⟨hC.2.1, ⟨hC.2.2.1.1, hC.2.2.1.2.1⟩, ht.1, hL, fun i hi => ⟨ht.2 i hi, hT i hi⟩⟩
  obtain ⟨v1, v12, v3⟩ := hcl
  have h6 := hV.2.2.1
  have hc4 : cwd T L f = 0 ∨ cwd T L f = 1 ∨ cwd T L f = 2 ∨ cwd T L f = 3 := by
    unfold cwd
    split
    · exact Or.inl rfl
    · split
      · exact Or.inr (Or.inl rfl)
      · split
        · exact Or.inr (Or.inr (Or.inl rfl))
        · exact Or.inr (Or.inr (Or.inr rfl))
  -- a change of the line's own numbers
  have num : ∀ (n r p : Nat) (q' : Nat → Nat) (S2 : Hp), S2 = sI (sI (sI S 34 (x + 29) 0 (nI p)) 35 (x + 29) 0 (nI n)) 36 (x + 29) 0 (nI r) → q' 0 = n → q' 1 = r → q' 2 = p → p ≤ q 2 → (∀ k, 3 ≤ k → q' k = q k) → cq T L f q = q' → Q S2 := by
    intro n r p q' S2 hS2 e0 e1 e2 hp hk hcq
    have hF : Fr (fun a => a ≠ x + 29) S S2 := by
      rw [hS2]
      exact Fr_tr (Fr_sI (fun w => w rfl)) (Fr_tr (Fr_sI (fun w => w rfl)) (Fr_sI (fun w => w rfl)))
    have hkl : ∀ a, kd S2 a = kd S a ∧ ln S2 a = ln S a := fun a => by rw [hS2]; exact ⟨rfl, rfl⟩
    have hrr : ∀ f a i, gR S2 f a i = gR S f a i := fun f a i => by rw [hS2]; rfl
    refine hQ S2 ?_ (fun a a1 a2 => ⟨(hkl a).1, (hkl a).2, fun f i => (hF.2 a (by omega) f i).1, fun f i => hrr f a i⟩) (fun a a1 a2 => ⟨(hkl a).1, (hkl a).2, fun g i => hF.2 a (by omega) g i⟩)
    rw [hcq]
    refine CLn_step h (Fr_sub hF (fun a ha => ha.1)) ?_ (CK_tr (fun a _ => hkl a) (fun f a i _ _ => hrr f a i) hC) (fun k hk3 => hk k (by omega)) (fun wd hwk hLn => ⟨wd, fun _ _ w => w, fun a w => ((hkl a).1).trans (hwk a w), ⟨?_, ?_, ?_⟩, fun p' hp' => ?_, fun p' hp' => ?_⟩)
    · rw [show sz S2 = sz S by rw [hS2]; rfl]
      exact ⟨fun a ha => ((hkl a).1).trans (hz.1 a ha), hz.2⟩
    · rw [hS2, gI_sI, if_neg (by omega), gI_sI, if_neg (by omega), gI_sI, if_pos ⟨rfl, rfl, rfl⟩, e2]
    · rw [hS2, gI_sI, if_neg (by omega), gI_sI, if_pos ⟨rfl, rfl, rfl⟩, e0]
    · rw [hS2, gI_sI, if_pos ⟨rfl, rfl, rfl⟩, e1]
    · obtain ⟨a, ha, hk6⟩ := hLn.2.1 p' hp'
      exact ⟨a, (hrr _ _ _).trans ha, ((hkl a).1).trans hk6⟩
    · rw [e2] at hp'
      obtain ⟨a, ha, hP⟩ := hLn.2.2 p' (by omega)
      refine ⟨a, (hrr _ _ _).trans ha, ?_⟩
      rw [hk _ (by omega), hk _ (by omega), hk _ (by omega)]
      exact PartAt_cg (fun i _ => hk _ (by omega)) (PartAt_fr hF (fun c hc _ _ => by omega) (fun _ w => w) hP)
  have self : ∀ {f : Nat} {v : Int32}, gI S f (x + 29) 0 = v → sI S f (x + 29) 0 v = S := by
    intro f v e
    rw [← e]
    obtain ⟨s1, s2, s3, s4, s5⟩ := S
    unfold sI up3 gI
    congr 3
    funext f' a' i'
    by_cases w : f' = f ∧ a' = x + 29 ∧ i' = 0
    · rw [if_pos w, w.1, w.2.1, w.2.2]
    · rw [if_neg w]
  refine ⟨hca, ?_⟩
  rintro _ rfl
  rw [v1]
  rcases hc4 with hw | hw | hw | hw
  · -- all
    have i0 : wIs T L f 0 := by
      by_cases w : wIs T L f 0
      · exact w
      · unfold cwd at hw
        rw [if_neg w] at hw
        split at hw
        · omega
        · split at hw <;> omega
    rw [hw]
    refine ⟨fun _ => ⟨f0, _, f3, i1, i1, ?_⟩, fun z => absurd rfl z⟩
    rintro _ rfl
    refine ⟨i1, ?_⟩
    rintro _ rfl
    refine ⟨i1, ?_⟩
    rintro _ rfl
    refine num 4 20 0 (allR q) _ rfl ?_ ?_ ?_ (by omega) (fun k hk => ?_) (by unfold cq; rw [if_pos i0])
    · unfold allR
      rw [va_up_ne _ _ (by omega), va_up_ne _ _ (by omega), va_up_self]
    · unfold allR
      rw [va_up_ne _ _ (by omega), va_up_self]
    · unfold allR
      rw [va_up_self]
    · unfold allR
      rw [va_up_ne _ _ (by omega), va_up_ne _ _ (by omega), va_up_ne _ _ (by omega)]
  · -- packets
    obtain ⟨hn, hcq⟩ := ck_12 (q := q) (w := 1) (hi := 8) hck hw (Or.inl ⟨rfl, rfl⟩)
    rw [hw]
    refine ⟨fun z => absurd z (by decide), fun _ => ⟨fun _ => ⟨f0, hca, _, f3, i1, ?_⟩, fun z => absurd rfl z⟩⟩
    rintro _ rfl
    rw [v12 (Or.inl hw)]
    refine num (vl T L (nF T L f)) (q 1) (q 2) (va_up q 0 (vl T L (nF T L f))) _ ?_ (va_up_self _ _ _) (va_up_ne _ _ (by omega)) (va_up_ne _ _ (by omega)) (Nat.le_refl _) (fun k hk => va_up_ne _ _ (by omega)) hcq
    rw [self hLn.1.1]
    have : gI (sI S 35 (x + 29) 0 (nI (vl T L (nF T L f)))) 36 (x + 29) 0 = nI (q 1) := by rw [gI_sI, if_neg (by omega)]; exact hLn.1.2.2
    rw [← this]
    obtain ⟨s1, s2, s3, s4, s5⟩ := S
    unfold sI up3 gI
    congr 3
    funext f' a' i'
    by_cases w : f' = 36 ∧ a' = x + 29 ∧ i' = 0
    · rw [if_pos w, w.1, w.2.1, w.2.2]
    · rw [if_neg w]
  · -- room
    obtain ⟨hn, hcq⟩ := ck_12 (q := q) (w := 2) (hi := 40) hck hw (Or.inr ⟨rfl, rfl⟩)
    rw [hw]
    refine ⟨fun z => absurd z (by decide), fun _ => ⟨fun z => absurd z (by decide), fun _ => ⟨fun _ => ⟨f0, hca, _, f3, i1, ?_⟩, fun z => absurd rfl z⟩⟩⟩
    rintro _ rfl
    rw [v12 (Or.inr hw)]
    refine num (q 0) (vl T L (nF T L f)) (q 2) (va_up q 1 (vl T L (nF T L f))) _ ?_ (va_up_ne _ _ (by omega)) (va_up_self _ _ _) (va_up_ne _ _ (by omega)) (Nat.le_refl _) (fun k hk => va_up_ne _ _ (by omega)) hcq
    rw [self hLn.1.1, self hLn.1.2.1]
  · -- part
    obtain ⟨⟨n0, n1, n2⟩, hm6, ⟨o1, o2, o3⟩, ⟨-, p1, p2⟩, ⟨-, r1, r2⟩⟩ := ck_3 hck hw
    obtain ⟨w2, w3, w4, w5⟩ := v3 hw
    have hcq : cq T L f q = partR T (nF T L f) (tE T L (nF T L f) - nF T L f) (vl T L (nF T L (nF T L f))) (vl T L (nF T L (nF T L (nF T L f)))) q := by unfold cq; rw [if_neg n0, if_neg n1, if_neg n2]
    rw [hcq] at hQ
    rw [hw]
    have hel := tE_le (T := T) (L := L) (f := nF T L f) (by omega)
    have heg := tE_ge (T := T) (L := L) (f := nF T L f)
    have hall : ∀ i, i < tE T L (nF T L f) - nF T L f → isSm (T (nF T L f + i)) = true := fun i hi => tE_alls o1 o2 (by omega) (by omega)
    refine ⟨fun z => absurd z (by decide), fun _ => ⟨fun z => absurd z (by decide), fun _ => ⟨fun z => absurd z (by decide), fun _ => ⟨f0, f0, Nat.le_refl _, Nat.le_refl _, _, f3, f0, hca, hca, _, f1, t11.1, by omega, by omega, ?_⟩⟩⟩⟩
    rw [w2, w3]
    generalize nF T L f = g1 at *
    generalize hl1 : tE T L g1 - g1 = l1 at *
    generalize vl T L (nF T L g1) = k1 at *
    generalize vl T L (nF T L (nF T L g1)) = m1 at *
    refine c_wordAt hCT hz.2 (by omega) (by omega) hall fun g hg => ⟨by omega, by omega, ?_⟩
    have hz1 := hz.1 (sz S) (Nat.le_refl _)
    have hz2 := hz.1 (sz S + 1) (by omega)
    have hzz := hz.2
    rintro _ rfl _ rfl
    -- the heap with the word and the part's cell
    have e3 : sz (setA (nw S 20 l1) (sz S) g) = sz S + 1 := rfl
    have kca : kd (nw (setA (nw S 20 l1) (sz S) g) 6 0) ca = 1 := by
      rw [kd_nw, e3, if_neg (by omega), kd_setA, kd_nw, if_neg (by omega)]
      exact hca
    have g4 : gI (nw (setA (nw S 20 l1) (sz S) g) 6 0) 4 ca 0 = nI k1 := by
      rw [gI_nw, e3, if_neg (by omega), gI_setA, if_neg (by omega), gI_nw, if_neg (by omega)]
      exact w4
    have g5 : gI (nw (setA (nw S 20 l1) (sz S) g) 6 0) 5 ca 0 = nI m1 := by
      rw [gI_nw, e3, if_neg (by omega), gI_setA, if_neg (by omega), gI_nw, if_neg (by omega)]
      exact w5
    have kn : kd (nw (setA (nw S 20 l1) (sz S) g) 6 0) (sz S + 1) = 6 := by rw [kd_nw, e3, if_pos rfl]
    refine ⟨kca, kca, kn, ?_⟩
    rintro _ rfl
    refine ⟨kn, ?_⟩
    rintro _ rfl
    refine ⟨kn, ?_⟩
    rintro _ rfl
    rw [g4, g5, e3]
    have hF00 : Fr (fun a => a ≠ sz S ∧ a ≠ sz S + 1) S (sI (sI (sR (nw (setA (nw S 20 l1) (sz S) g) 6 0) 81 (sz S + 1) 0 (some (sz S))) 82 (sz S + 1) 0 (nI k1)) 83 (sz S + 1) 0 (nI m1)) := by
      refine ⟨fun a ha => ?_, fun a ha f' i => ⟨?_, ?_⟩⟩
      · have h1 : a ≠ sz S := fun w => ha (by rw [w]; exact hz1)
        have h2 : a ≠ sz S + 1 := fun w => ha (by rw [w]; exact hz2)
        rw [kd_sI, kd_sI, kd_sR, kd_nw, e3, if_neg h2, kd_setA, kd_nw, if_neg h1, ln_sI, ln_sI, ln_sR, ln_nw, e3, if_neg h2, ln_setA, ln_nw, if_neg h1]
        exact ⟨rfl, rfl⟩
      · obtain ⟨h1, h2⟩ := ha
        rw [gI_sI, if_neg (fun w => h2 w.2.1), gI_sI, if_neg (fun w => h2 w.2.1), gI_sR, gI_nw, e3, if_neg h2, gI_setA, if_neg (fun w => h1 w.2), gI_nw, if_neg h1]
      · obtain ⟨h1, h2⟩ := ha
        rw [gR_sI, gR_sI, gR_sR, if_neg (fun w => h2 w.2.1), gR_nw, e3, if_neg h2, gR_setA, gR_nw, if_neg h1]
    have s0 : sz (sI (sI (sR (nw (setA (nw S 20 l1) (sz S) g) 6 0) 81 (sz S + 1) 0 (some (sz S))) 82 (sz S + 1) 0 (nI k1)) 83 (sz S + 1) 0 (nI m1)) = sz S + 2 := rfl
    have hkall : ∀ a, kd (sI (sI (sR (nw (setA (nw S 20 l1) (sz S) g) 6 0) 81 (sz S + 1) 0 (some (sz S))) 82 (sz S + 1) 0 (nI k1)) 83 (sz S + 1) 0 (nI m1)) a = if a = sz S + 1 then 6 else if a = sz S then 20 else kd S a := fun a => by
      rw [kd_sI, kd_sI, kd_sR, kd_nw, e3, kd_setA, kd_nw]
    have hlall : ∀ a, ln (sI (sI (sR (nw (setA (nw S 20 l1) (sz S) g) 6 0) 81 (sz S + 1) 0 (some (sz S))) 82 (sz S + 1) 0 (nI k1)) 83 (sz S + 1) 0 (nI m1)) a = if a = sz S + 1 then 0 else if a = sz S then l1 else ln S a := fun a => by
      rw [ln_sI, ln_sI, ln_sR, ln_nw, e3, ln_setA, ln_nw]
    have q81 : gR (sI (sI (sR (nw (setA (nw S 20 l1) (sz S) g) 6 0) 81 (sz S + 1) 0 (some (sz S))) 82 (sz S + 1) 0 (nI k1)) 83 (sz S + 1) 0 (nI m1)) 81 (sz S + 1) 0 = some (sz S) := by
      rw [gR_sI, gR_sI, gR_sR, if_pos ⟨rfl, rfl, rfl⟩]
    have q82 : gI (sI (sI (sR (nw (setA (nw S 20 l1) (sz S) g) 6 0) 81 (sz S + 1) 0 (some (sz S))) 82 (sz S + 1) 0 (nI k1)) 83 (sz S + 1) 0 (nI m1)) 82 (sz S + 1) 0 = nI k1 := by
      rw [gI_sI, if_neg (by omega), gI_sI, if_pos ⟨rfl, rfl, rfl⟩]
    have q83 : gI (sI (sI (sR (nw (setA (nw S 20 l1) (sz S) g) 6 0) 81 (sz S + 1) 0 (some (sz S))) 82 (sz S + 1) 0 (nI k1)) 83 (sz S + 1) 0 (nI m1)) 83 (sz S + 1) 0 = nI m1 := by
      rw [gI_sI, if_pos ⟨rfl, rfl, rfl⟩]
    have qln : ln (sI (sI (sR (nw (setA (nw S 20 l1) (sz S) g) 6 0) 81 (sz S + 1) 0 (some (sz S))) 82 (sz S + 1) 0 (nI k1)) 83 (sz S + 1) 0 (nI m1)) (sz S) = l1 := by
      rw [ln_sI, ln_sI, ln_sR, ln_nw, e3, if_neg (by omega), ln_setA, ln_nw, if_pos rfl]
    have qw : ∀ i, i < l1 → gI (sI (sI (sR (nw (setA (nw S 20 l1) (sz S) g) 6 0) 81 (sz S + 1) 0 (some (sz S))) 82 (sz S + 1) 0 (nI k1)) 83 (sz S + 1) 0 (nI m1)) 0 (sz S) i = nI (T (g1 + i) - 97) := fun i hi => by
      rw [gI_sI, if_neg (by omega), gI_sI, if_neg (by omega), gI_sR, gI_nw, e3, if_neg (by omega), setA_at]
      exact hg i hi
    have k0 : KO x S (sI (sI (sR (nw (setA (nw S 20 l1) (sz S) g) 6 0) 81 (sz S + 1) 0 (some (sz S))) 82 (sz S + 1) 0 (nI k1)) 83 (sz S + 1) 0 (nI m1)) := KO_tr (KO_nw (by omega)) (KO_tr (KO_setA (by omega)) (KO_tr (KO_nw (by rw [e3]; omega)) (KO_tr (KO_sR (by omega)) (KO_tr (KO_sI (by omega)) (KO_sI (by omega))))))
    generalize sI (sI (sR (nw (setA (nw S 20 l1) (sz S) g) 6 0) 81 (sz S + 1) 0 (some (sz S))) 82 (sz S + 1) 0 (nI k1)) 83 (sz S + 1) 0 (nI m1) = S4 at *
    have hF0 : Fr (fun a => kd S a ≠ 0) S S4 := Fr_sub hF00 (fun a ha => ⟨fun w => ha (by rw [w]; exact hz1), fun w => ha (by rw [w]; exact hz2)⟩)
    have kx : ∀ {a k : Nat}, kd S a = k → k ≠ 0 → kd S4 a = k := fun e n => kd_fr hF0 n e
    have hC4 : CK S4 x := CK_tr hF0.1 (fun f' a i ha hc => (hF00.2 a ⟨by omega, by omega⟩ f' i).2) hC
    have l34 : gI S4 34 (x + 29) 0 = nI (q 2) := gI_fr hF0 (by rw [i1]; decide) hLn.1.1
    refine ⟨kx i1 (by decide), kx i1 (by decide), fun hc => ?_, fun hc => ⟨kx i1 (by decide), kx i1 (by decide), x + 30, ?_, kx i2.2.1 (by decide), ?_, ?_, ?_⟩⟩
    · rw [l34, li_6, nI_leI (by omega) (by omega)] at hc
      omega
    · exact gR_fr hF0 (by rw [i1]; decide) i2.1
    · rw [hkall, if_pos rfl]
    · rw [l34, (hF0.1 _ (by rw [i2.2.1]; decide)).2, i2.2.2]
      exact vp_li (by omega) (by omega)
    · rintro _ rfl
      refine ⟨kx i1 (by decide), kx i1 (by decide), ?_⟩
      rintro _ rfl
      rw [l34, nI_clamp (by omega)]
      have l34' : gI (sR S4 0 (x + 30) (q 2) (some (sz S + 1))) 34 (x + 29) 0 = nI (q 2) := l34
      rw [l34', nI_1]
      have hF1 : Fr (fun a => a ≠ x + 29 ∧ a ≠ x + 30 ∧ kd S a ≠ 0) S (sI (sR S4 0 (x + 30) (q 2) (some (sz S + 1))) 34 (x + 29) 0 (nI (q 2 + 1))) := Fr_tr (Fr_sub hF0 (fun a w => w.2.2)) (Fr_tr (Fr_sR (fun w => w.2.1 rfl)) (Fr_sI (fun w => w.1 rfl)))
      refine hQ _ (CLn_step h hF1 ⟨fun a ha => ?_, ?_⟩ (CK_tr (S := S4) (fun _ _ => ⟨rfl, rfl⟩) (fun f' a i ha hc => ?_) hC4) (fun k hk => pr_hi (by omega) (by omega)) (fun wd hwk hLn => ⟨fun a => wd a ∨ a = sz S, fun a ha w => w.resolve_right (fun e => ha (by rw [e]; exact hz1)), fun a w => ?_, ⟨?_, ?_, ?_⟩, fun p hp => ?_, fun p hp => ?_⟩)) (KO_tr k0 (KO_tr (KO_sR (by omega)) (KO_sI (by omega)))) (fun a a1 a2 => ?_)
      · rw [sz_sI, sz_sR, s0] at ha
        rw [kd_sI, kd_sR, hkall, if_neg (by omega), if_neg (by omega)]
        exact hz.1 a (by omega)
      · rw [sz_sI, sz_sR, s0]
        omega
      · rw [gR_sI, gR_sR, if_neg (by omega)]
      · rw [kd_sI, kd_sR, hkall]
        rcases w with w | w
        · have : kd S a = 20 := hwk a w
          rw [if_neg (fun e => by rw [e, hz2] at this; omega), if_neg (fun e => by rw [e, hz1] at this; omega)]
          exact this
        · rw [if_neg (by omega), if_pos w]
      · rw [gI_sI, if_pos ⟨rfl, rfl, rfl⟩, pr_2]
      · rw [gI_sI, if_neg (by omega), gI_sR, pr_lo (by omega) (by omega)]
        exact gI_fr hF0 (by rw [i1]; decide) hLn.1.2.1
      · rw [gI_sI, if_neg (by omega), gI_sR, pr_lo (by omega) (by omega)]
        exact gI_fr hF0 (by rw [i1]; decide) hLn.1.2.2
      · rw [gR_sI, gR_sR]
        by_cases e : p = q 2
        · rw [if_pos ⟨rfl, rfl, e⟩]
          exact ⟨_, rfl, by rw [kd_sI, kd_sR, hkall, if_pos rfl]⟩
        · rw [if_neg (fun w => e w.2.2)]
          obtain ⟨a, ha, hk6⟩ := hLn.2.1 p hp
          exact ⟨a, gR_fr hF0 (by rw [i2.2.1]; decide) ha, kx hk6 (by decide)⟩
      · rw [pr_2] at hp
        rw [gR_sI, gR_sR]
        by_cases e : p = q 2
        · subst e
          rw [if_pos ⟨rfl, rfl, rfl⟩, pr_3, pr_4, pr_5]
          refine ⟨_, rfl, by omega, by rw [kd_sI, kd_sR, hkall, if_pos rfl], ?_, ?_, sz S, by omega, Or.inr rfl, ⟨?_, ?_, ?_⟩, fun i hi => ?_⟩
          · rw [gI_sI, if_neg (by omega), gI_sR]
            exact q82
          · rw [gI_sI, if_neg (by omega), gI_sR]
            exact q83
          · rw [gR_sI, gR_sR, if_neg (by omega)]
            exact q81
          · rw [kd_sI, kd_sR, hkall, if_neg (by omega), if_pos rfl]
          · rw [ln_sI, ln_sR]
            exact qln
          · rw [gI_sI, if_neg (by omega), gI_sR, qw i hi]
            exact congrArg nI (pr_6 hi).symm
        · rw [if_neg (fun w => e w.2.2), pr_lo (by omega) (by omega), pr_lo (by omega) (by omega), pr_lo (by omega) (by omega)]
          obtain ⟨a, ha, hP⟩ := hLn.2.2 p (by omega)
          have hl12 : q (3 + 15 * p) ≤ 12 := (hV.2.2.2.1 p (by omega)).1.2
          refine ⟨a, gR_fr hF0 (by rw [i2.2.1]; decide) ha, PartAt_cg (fun i hi => pr_lo (by omega) (by omega)) (PartAt_fr hF1 (fun c hc hk0 _ => ⟨by omega, by omega, hk0⟩) (fun _ w => Or.inl w) hP)⟩
      · refine ⟨?_, ?_, fun g i => ⟨?_, ?_⟩⟩
        · rw [kd_sI, kd_sR, hkall, if_neg (by omega), if_neg (by omega)]
        · rw [ln_sI, ln_sR, hlall, if_neg (by omega), if_neg (by omega)]
        · rw [gI_sI, if_neg (by omega), gI_sR]
          exact (hF00.2 a ⟨by omega, by omega⟩ g i).1
        · rw [gR_sI, gR_sR, if_neg (by omega)]
          exact (hF00.2 a ⟨by omega, by omega⟩ g i).2
end CTELL
