/-! ===== pack: the order of the stripes ===== -/
section PACK
variable {q q' : Nat → Nat}
def inK (q : Nat → Nat) (k : Nat) : Nat → Nat
  | 0 => 0
  | i + 1 => inK q k i + (if q (4 + 15 * i) = k then sP q i else 0)
def plN (q : Nat → Nat) (n : Nat) : Nat → Nat
  | 0 => 0
  | k + 1 => plN q n k + inK q k n
abbrev plK (q : Nat → Nat) (k : Nat) : Nat := plN q (q 2) k
def frst (q : Nat → Nat) (p : Nat) : Nat := plK q (q (4 + 15 * p)) + inK q (q (4 + 15 * p)) p
theorem inK_mono {k i : Nat} : ∀ j, i ≤ j → inK q k i ≤ inK q k j
  | 0, h => by
    obtain rfl : i = 0 := by omega
    exact Nat.le_refl _
  | j + 1, h => by
    by_cases e : i = j + 1
    · rw [e]
      exact Nat.le_refl _
    · have := inK_mono (k := k) j (i := i) (by omega)
      rw [inK]
      omega
theorem plN_mono {n k : Nat} : ∀ j, k ≤ j → plN q n k ≤ plN q n j
  | 0, h => by
    obtain rfl : k = 0 := by omega
    exact Nat.le_refl _
  | j + 1, h => by
    by_cases e : k = j + 1
    · rw [e]
      exact Nat.le_refl _
    · have := plN_mono (n := n) j (k := k) (by omega)
      rw [plN]
      omega
theorem fr_eq {p i : Nat} (hp : p < i) : frst q p + sP q p ≤ plK q (q (4 + 15 * p)) + inK q (q (4 + 15 * p)) i := by
  have h1 := inK_mono (q := q) (k := q (4 + 15 * p)) (i := p + 1) i hp
  rw [inK, if_pos rfl] at h1
  unfold frst
  omega
theorem fr_lt {p k : Nat} (hp : p < q 2) (hk : q (4 + 15 * p) < k) : frst q p + sP q p ≤ plK q k := by
  have h1 := fr_eq (q := q) hp
  have h2 := plN_mono (q := q) (n := q 2) (k := q (4 + 15 * p) + 1) k hk
  rw [plN] at h2
  exact Nat.le_trans h1 h2
theorem fr_disj {p r : Nat} (hp : p < q 2) (hr : r < q 2) (hne : p ≠ r) : frst q p + sP q p ≤ frst q r ∨ frst q r + sP q r ≤ frst q p := by
  rcases Nat.lt_trichotomy (q (4 + 15 * p)) (q (4 + 15 * r)) with h | h | h
  · have := fr_lt hp h
    refine Or.inl (Nat.le_trans this ?_)
    unfold frst
    omega
  · rcases Nat.lt_or_ge p r with g | g
    · have := fr_eq (q := q) g
      rw [h] at this
      exact Or.inl this
    · have := fr_eq (q := q) (p := r) (i := p) (by omega)
      rw [← h] at this
      exact Or.inr this
  · have := fr_lt hr h
    refine Or.inr (Nat.le_trans this ?_)
    unfold frst
    omega
theorem in_surj {k : Nat} : ∀ n j, j < inK q k n → ∃ p, p < n ∧ q (4 + 15 * p) = k ∧ ∃ s, s < sP q p ∧ j = inK q k p + s
  | 0, j, h => absurd h (Nat.not_lt_zero j)
  | n + 1, j, h => by
    rw [inK] at h
    by_cases e : j < inK q k n
    · obtain ⟨p, h1, h2, h3⟩ := in_surj n j e
      exact ⟨p, by omega, h2, h3⟩
    · by_cases e2 : q (4 + 15 * n) = k
      · rw [if_pos e2] at h
        exact ⟨n, by omega, e2, j - inK q k n, by omega, by omega⟩
      · rw [if_neg e2] at h
        omega
theorem fr_surj : ∀ k i, i < plK q k → ∃ p, p < q 2 ∧ ∃ s, s < sP q p ∧ i = frst q p + s
  | 0, i, h => absurd h (Nat.not_lt_zero i)
  | k + 1, i, h => by
    have h' : i < plN q (q 2) k + inK q k (q 2) := h
    by_cases e : i < plN q (q 2) k
    · exact fr_surj k i e
    · obtain ⟨p, h1, h2, s, h3, h4⟩ := in_surj (q := q) (k := k) (q 2) (i - plN q (q 2) k) (by omega)
      refine ⟨p, h1, s, h3, ?_⟩
      unfold frst plK
      rw [h2]
      omega
theorem plN_s {n : Nat} : ∀ k, plN q (n + 1) k = plN q n k + (if q (4 + 15 * n) < k then sP q n else 0)
  | 0 => rfl
  | k + 1 => by
    have ih := plN_s (n := n) k
    rw [plN, plN, inK, ih]
    by_cases h1 : q (4 + 15 * n) < k
    · rw [if_pos h1, if_neg (by omega), if_pos (by omega)]
      omega
    · rw [if_neg h1]
      by_cases h2 : q (4 + 15 * n) = k
      · rw [if_pos h2, if_pos (by omega)]
        omega
      · rw [if_neg h2, if_neg (by omega)]
        omega
theorem plN_0 : ∀ k, plN q 0 k = 0
  | 0 => rfl
  | k + 1 => by
    rw [plN, plN_0 k]
    rfl
theorem plK_len (hV : V q) : plK q 9 = lenS q 63 (q 2) := by
  have h6 := hV.2.2.1
  have key : ∀ n, n ≤ q 2 → plN q n 9 = lenS q 63 n := by
    intro n
    induction n with
    | zero =>
      intro _
      rw [plN_0]
      rfl
    | succ n ih =>
      intro hn
      have := (hV.2.2.2.1 n (by omega)).2.1
      rw [plN_s, if_pos (by omega), ih (by omega), len63 (by omega)]
  exact key (q 2) (Nat.le_refl _)
/-- the numbers of a stripe; its number in a packet -/
def cur (q : Nat → Nat) (p s : Nat) : Nat → Nat := fun j => if q (4 + 15 * p) * s + j < q (3 + 15 * p) then q (6 + 15 * p + (q (4 + 15 * p) * s + j)) else 0
def vS (q : Nat → Nat) (p s t : Nat) : Nat := at29 (cur q p s) (q (4 + 15 * p)) (t + 1)
theorem vS_lt {p s t : Nat} : vS q p s t < 29 := hr_lt _ _ _ _
theorem cur_lt (hV : V q) {p s j : Nat} (hp : p < q 2) : cur q p s j < 29 := by
  unfold cur
  split
  · rename_i h
    have := (hV.2.2.2.1 p hp).2.2.2 _ h
    omega
  · omega
/-- what pack makes of a row; what lies beyond the numbers is free -/
def PackRel (q q' : Nat → Nat) : Prop := (∀ k, k < 93 → q' k = q k) ∧ (q' 93 = q 2 ∧ q' 94 = q 0 ∧ q' 95 = plK q 9) ∧ (∀ p, p < q 2 → q' (96 + 3 * p) = q (3 + 15 * p) ∧ q' (97 + 3 * p) = q (4 + 15 * p) ∧ q' (98 + 3 * p) = frst q p) ∧ (∀ t, t < 8 → q' (114 + t) = 0 ∧ q' (122 + t) = plK q 9) ∧ (∀ p, p < q 2 → ∀ s, s < sP q p → ∀ t, t < q 0 → q' (130 + 40 * t + (frst q p + s)) = vS q p s t ∧ q' (450 + 40 * t + (frst q p + s)) = vS q p s t) ∧ ∀ t, t < 8 → ∀ i, i < 40 → q' (130 + 40 * t + i) ≤ 28 ∧ q' (450 + 40 * t + i) ≤ 28
theorem fit_iff (hV : V q) : fitB q = true ↔ plK q 9 ≤ q 1 ∧ ∀ i, i < q 2 → q (4 + 15 * i) ≤ q 0 := by
  unfold fitB
  rw [Bool.and_eq_true, decide_eq_true_iff, plK_len hV, ndLe_iff]
theorem V_pack (hV : V q) (hf : fitB q = true) (h : PackRel q q') : V q' := by
  obtain ⟨v0, v1, v2, v3, -⟩ := id hV
  obtain ⟨f1, f2⟩ := (fit_iff hV).mp hf
  obtain ⟨p1, ⟨p2, p3, p4⟩, p5, p6, p7, p8⟩ := h
  refine ⟨by rw [p1 0 (by omega)]; exact v0, by rw [p1 1 (by omega)]; exact v1, by rw [p1 2 (by omega)]; exact v2, fun p hp => ?_, ⟨by omega, by omega, by omega⟩, fun p hp => ?_, fun t ht => ?_, p8⟩
  · rw [p1 2 (by omega)] at hp
    obtain ⟨a1, a2, a3, a4⟩ := v3 p hp
    rw [p1 _ (by omega), p1 _ (by omega), p1 _ (by omega)]
    exact ⟨a1, a2, a3, fun i hi => by rw [p1 _ (by omega)]; exact a4 i hi⟩
  · rw [p2] at hp
    obtain ⟨a1, a2, a3, a4⟩ := v3 p hp
    obtain ⟨b1, b2, b3⟩ := p5 p hp
    rw [b1, b2, b3, p3, p4]
    exact ⟨a1, ⟨a2.1, f2 p hp⟩, fr_lt hp (by omega)⟩
  · rw [(p6 t ht).1, (p6 t ht).2, p4]
    omega
end PACK
/-! ===== the reference: pack ===== -/
section MPACK
variable {S : Hp} {mo : Nat} {σ : Sg}
/-- a part's numbers written: stripes below s in all packets, those of s in the packets below t -/
def WR (q : Nat → Nat) (p fr s t : Nat) (q' : Nat → Nat) : Prop := (∀ k, k < 130 → q' k = q k) ∧ (∀ s' t', t' < q 0 → (s' < s ∨ (s' = s ∧ t' < t)) → q' (130 + 40 * t' + (fr + s')) = vS q p s' t' ∧ q' (450 + 40 * t' + (fr + s')) = vS q p s' t') ∧ (∀ t', t' < 8 → ∀ i, i < 40 → (i < fr ∨ fr + s < i ∨ (i = fr + s ∧ t ≤ t')) → q' (130 + 40 * t' + i) = q (130 + 40 * t' + i) ∧ q' (450 + 40 * t' + i) = q (450 + 40 * t' + i)) ∧ ∀ t', t' < 8 → ∀ i, i < 40 → q' (130 + 40 * t' + i) ≤ 28 ∧ q' (450 + 40 * t' + i) ≤ 28
theorem WR_step {q q' : Nat → Nat} {p fr s t : Nat} (h8 : q 0 ≤ 8) (hs : fr + s < 40) (ht : t < q 0) (h : WR q p fr s t q') : WR q p fr s (t + 1) (va_up (va_up q' (130 + 40 * t + (fr + s)) (vS q p s t)) (450 + 40 * t + (fr + s)) (vS q p s t)) := by
  obtain ⟨h1, h2, h3, h4⟩ := h
  have hv := vS_lt (q := q) (p := p) (s := s) (t := t)
  refine ⟨fun k hk => ?_, fun s' t' ht' hc => ?_, fun t' ht' i hi hc => ?_, fun t' ht' i hi => ?_⟩
  · rw [va_up_ne _ _ (by omega), va_up_ne _ _ (by omega)]
    exact h1 k hk
  · by_cases e : s' = s ∧ t' = t
    · rw [e.1, e.2, va_up_self, va_up_ne _ _ (by omega), va_up_self]
      exact ⟨rfl, rfl⟩
    · rw [va_up_ne _ _ (by omega), va_up_ne _ _ (by omega), va_up_ne _ _ (by omega), va_up_ne _ _ (by omega)]
      exact h2 s' t' ht' (by omega)
  · rw [va_up_ne _ _ (by omega), va_up_ne _ _ (by omega), va_up_ne _ _ (by omega), va_up_ne _ _ (by omega)]
    exact h3 t' ht' i hi (by omega)
  · by_cases e : t' = t ∧ i = fr + s
    · rw [e.1, e.2, va_up_self, va_up_ne _ _ (by omega), va_up_self]
      omega
    · rw [va_up_ne _ _ (by omega), va_up_ne _ _ (by omega), va_up_ne _ _ (by omega), va_up_ne _ _ (by omega)]
      exact h4 t' ht' i hi
theorem WR_next {q q' : Nat → Nat} {p fr s : Nat} (h : WR q p fr s (q 0) q') : WR q p fr (s + 1) 0 q' := by
  obtain ⟨h1, h2, h3, h4⟩ := h
  refine ⟨h1, fun s' t' ht' hc => h2 s' t' ht' ?_, fun t' ht' i hi hc => h3 t' ht' i hi ?_, h4⟩
  · rcases hc with hc | hc
    · by_cases e : s' = s
      · exact Or.inr ⟨e, ht'⟩
      · exact Or.inl (by omega)
    · omega
  · omega
theorem M_packs {Q : Hp → Prop} {p fr : Nat} (hS : MS S mo σ) (h8 : σ.1 0 ≤ 8) (hp : p < 6) (hl : σ.1 (3 + 15 * p) ≤ 12) (hk : 1 ≤ σ.1 (4 + 15 * p)) (hk8 : σ.1 (4 + 15 * p) ≤ 8) (hc : ∀ i, i < σ.1 (3 + 15 * p) → σ.1 (6 + 15 * p + i) ≤ 25) (hb : ∀ t, t < 8 → ∀ i, i < 40 → σ.1 (130 + 40 * t + i) ≤ 28 ∧ σ.1 (450 + 40 * t + i) ≤ 28) (hfr : fr + sP σ.1 p ≤ 40) (h : ∀ S' q', WR σ.1 p fr (sP σ.1 p) 0 q' → MS S' mo (q', σ.2) → SO mo S S' → Q S') : wp_X12_packs mo (nI p) (nI fr) S Q := by
  unfold wp_X12_packs wp_X12_at
  have e0 : (3 : Int32) + 15 * nI p = nI (3 + 15 * p) := by rw [li_3, li_15, pk_mul, nI_add]
  have e1 : nI (3 + 15 * p) + (1 : Int32) = nI (4 + 15 * p) := by
    rw [nI_1]
    congr 1
    omega
  rw [e0]
  refine m_rd (4 + 15 * p) hS.1 e1 (by omega) ?_
  rintro _ rfl
  rw [m_rv _ hS.2.1 e1 (by omega)]
  obtain ⟨q, us, tx⟩ := σ
  dsimp only at *
  have hsl : sP q p ≤ 12 := stN_le hl hk
  refine Lp_of (fun n y => ∃ s S' q', s ≤ sP q p ∧ n = sP q p - s ∧ y = (nI s, S') ∧ WR q p fr s 0 q' ∧ MS S' mo (q', us, tx) ∧ SO mo S S') (fun n y hy K hK => ?_) (n := sP q p) (x := (nI 0, S)) ⟨0, S, q, by omega, rfl, rfl, ⟨fun _ _ => rfl, fun s' t' _ hc => by omega, fun _ _ _ _ _ => ⟨rfl, rfl⟩, hb⟩, hS, SO_rf mo S⟩
  obtain ⟨s, S1, q1, hs, rfl, rfl, hW, hS1, o1⟩ := hy
  have r3 := hW.1 (3 + 15 * p) (by omega)
  have r4 := hW.1 (4 + 15 * p) (by omega)
  refine ⟨hS1.1.1, m_stripesOf (r := q1) hS1.1 hS1.2.1 hp (by rw [r3]; exact hl) (by rw [r4]; exact hk) (by rw [r4]; exact hk8) ⟨fun hd => ?_, fun hd => ?_⟩⟩
  · dsimp only at hd
    rw [r3, r4] at hd
    have hd' : nI (sP q p) ≤ nI s := hd
    rw [nI_leI (by omega) (by omega)] at hd'
    obtain rfl : s = sP q p := by omega
    exact h S1 q1 hW hS1 o1
  · dsimp only at hd ⊢
    rw [r3, r4] at hd
    have hd' : ¬ nI (sP q p) ≤ nI s := hd
    rw [nI_leI (by omega) (by omega)] at hd'
    refine Lp_of (fun n y => ∃ t S' q', t ≤ q 0 ∧ n = q 0 - t ∧ y = (nI t, S') ∧ WR q p fr s t q' ∧ MS S' mo (q', us, tx) ∧ SO mo S S') (fun n y hy K2 hK2 => ?_) (n := q 0) (x := (nI 0, S1)) ⟨0, S1, q1, by omega, rfl, rfl, hW, hS1, o1⟩
    obtain ⟨t, S2, q2, ht, rfl, rfl, hW2, hS2, o2⟩ := hy
    have u0 := hW2.1 0 (by omega)
    refine m_rd 0 hS2.1 li_0 (by omega) ?_
    dsimp only
    rw [m_rv 0 hS2.2.1 li_0 (by omega)]
    dsimp only
    rw [u0]
    refine ⟨fun he => ?_, fun he => ?_⟩
    · rw [nI_leI (by omega) (by omega)] at he
      obtain rfl : t = q 0 := by omega
      rintro _ rfl
      rw [nI_1]
      exact hK _ (sP q p - (s + 1)) (by omega) ⟨s + 1, S2, q2, by omega, rfl, rfl, WR_next hW2, hS2, o2⟩
    · rw [nI_leI (by omega) (by omega)] at he
      rintro _ rfl
      show wp_X12_packs_51 _ _ Q mo (nI p) (nI fr) (nI (3 + 15 * p)) (nI (q (4 + 15 * p))) (nI s) (nI t) 0 (dn (q (4 + 15 * p))) S2
      have hcl : ∀ j, cur q p s j ≤ 28 := fun j => by
        unfold cur
        split
        · rename_i w
          have := hc _ w
          omega
        · omega
      refine Lp_for (fun j => (nI (hr (cur q p s) (q (4 + 15 * p)) (t + 1) j), dn (q (4 + 15 * p) - j), S2)) (q (4 + 15 * p)) (fun j hj K3 hK3 => ?_) (fun K3 => ?_) (i := 0) (by omega)
      · have hd2 : dn (q (4 + 15 * p) - j) = nI (q (4 + 15 * p) - 1 - j) := by rw [show q (4 + 15 * p) - j = (q (4 + 15 * p) - 1 - j) + 1 by omega, dn_s]
        have hlt := hr_lt (cur q p s) (q (4 + 15 * p)) (t + 1) j
        have hm : hr (cur q p s) (q (4 + 15 * p)) (t + 1) j * (t + 1) ≤ 28 * 8 := Nat.mul_le_mul (by omega) (by omega)
        have hcj := hcl (q (4 + 15 * p) - 1 - j)
        have hks : q (4 + 15 * p) * s ≤ 8 * 12 := Nat.mul_le_mul hk8 (by omega)
        have go : wp_X12_packs_100 (fun w0 w1 => K (w0, w1)) (fun w0 w1 => K2 (w0, w1)) (fun w0 w1 w2 => K3 (w0, w1, w2)) Q mo (nI p) (nI fr) (nI (3 + 15 * p)) (nI (q (4 + 15 * p))) (nI s) (nI t) (dn (q (4 + 15 * p) - j)) (nI (cur q p s (q (4 + 15 * p) - 1 - j))) (nI t + 1) (nI (hr (cur q p s) (q (4 + 15 * p)) (t + 1) j)) S2 := by
          refine ⟨by decide, ?_⟩
          rintro _ rfl
          rw [nI_1, pk_mul, nI_add, li_29, pk_rem (by omega) (by omega) (by omega), hd2, dn_m]
          rw [show q (4 + 15 * p) - (j + 1) = q (4 + 15 * p) - 1 - j by omega] at hK3
          exact hK3
        refine ⟨fun hz => ?_, fun hz => ?_⟩
        · dsimp only at hz
          rw [dn_lt0 (by omega)] at hz
          omega
        · dsimp only
          rintro _ rfl
          have u3 := hW2.1 (3 + 15 * p) (by omega)
          have e2 : nI (3 + 15 * p) + (0 : Int32) = nI (3 + 15 * p) := by
            rw [li_0, nI_add]
            rfl
          refine m_rd (3 + 15 * p) hS2.1 e2 (by omega) ?_
          rw [m_rv _ hS2.2.1 e2 (by omega)]
          dsimp only
          rw [u3, hd2, pk_mul, nI_add]
          refine ⟨fun hy => ?_, fun hy => ?_⟩
          · rw [nI_leI (by omega) (by omega)] at hy
            have : cur q p s (q (4 + 15 * p) - 1 - j) = 0 := by
              unfold cur
              rw [if_neg (by omega)]
            rw [this, hd2] at go
            exact go
          · rw [nI_leI (by omega) (by omega)] at hy
            have e3 : nI (3 + 15 * p) + (3 : Int32) + nI (q (4 + 15 * p) * s + (q (4 + 15 * p) - 1 - j)) = nI (6 + 15 * p + (q (4 + 15 * p) * s + (q (4 + 15 * p) - 1 - j))) := by
              rw [li_3, nI_add, nI_add]
              congr 1
              omega
            refine m_rd _ hS2.1 e3 (by omega) ?_
            rw [m_rv _ hS2.2.1 e3 (by omega)]
            dsimp only
            have u6 := hW2.1 (6 + 15 * p + (q (4 + 15 * p) * s + (q (4 + 15 * p) - 1 - j))) (by omega)
            have : cur q p s (q (4 + 15 * p) - 1 - j) = q (6 + 15 * p + (q (4 + 15 * p) * s + (q (4 + 15 * p) - 1 - j))) := by
              unfold cur
              rw [if_pos (by omega)]
            rw [u6]
            rw [this, hd2] at go
            exact go
      · refine ⟨fun _ => ?_, fun hz => ?_⟩
        · dsimp only
          have ev : hr (cur q p s) (q (4 + 15 * p)) (t + 1) (q (4 + 15 * p)) = vS q p s t := rfl
          rw [ev]
          have i1 : (130 : Int32) + 40 * nI t + nI fr + nI s = nI (130 + 40 * t + (fr + s)) := by
            rw [li_130, li_40, pk_mul, nI_add, nI_add, nI_add]
            congr 1
            omega
          have i2 : (450 : Int32) + 40 * nI t + nI fr + nI s = nI (450 + 40 * t + (fr + s)) := by
            rw [li_450, li_40, pk_mul, nI_add, nI_add, nI_add]
            congr 1
            omega
          refine m_rd _ hS2.1 i1 (by omega) ?_
          rintro _ rfl
          rw [i1, nI_clamp (by omega)]
          have hS3 := MS_upd (k := 130 + 40 * t + (fr + s)) (v := vS q p s t) hS2 (by omega)
          refine m_rd _ hS3.1 i2 (by omega) ?_
          rintro _ rfl _ rfl
          rw [i2, nI_clamp (by omega), nI_1]
          have hS4 := MS_upd (k := 450 + 40 * t + (fr + s)) (v := vS q p s t) hS3 (by omega)
          exact hK2 _ (q 0 - (t + 1)) (by omega) ⟨t + 1, _, _, by omega, rfl, rfl, WR_step h8 (by omega) (by omega) hW2, hS4, SO_tr o2 (SO_tr (SO_sI ⟨by omega, by omega⟩) (SO_sI ⟨by omega, by omega⟩))⟩
        · dsimp only at hz
          rw [dn_lt0 (by omega)] at hz
          omega
end MPACK
