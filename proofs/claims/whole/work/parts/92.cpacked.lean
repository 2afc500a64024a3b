/-! ===== the class: a new Packed ===== -/
section CPKD
variable {S S' : Hp} {q : Nat → Nat} {bo la n : Nat}
/-- the parts that a box takes -/
def PX (S : Hp) (bo la : Nat) (q : Nat → Nat) : Prop := (∀ p, p < 6 → ∃ a, gR S 0 (la + 1) p = some a ∧ a < bo ∧ kd S a = 6) ∧ ∀ p, p < q 2 → ∃ a, gR S 0 (la + 1) p = some a ∧ a < bo ∧ kd S a = 6 ∧ gI S 82 a 0 = nI (q (4 + 15 * p)) ∧ ∃ w, w < bo ∧ AR S 81 a w 20 (q (3 + 15 * p)) ∧ ∀ i, i < q (3 + 15 * p) → gI S 0 w i = nI (q (6 + 15 * p + i))
/-- a box under way: its cells below z stand -/
def BU (S S' : Hp) (bo la : Nat) (q : Nat → Nat) (n : Nat) : Prop := (∀ a, a < bo → Sm S S' a) ∧ (kd S' bo = 4 ∧ gI S' 50 bo 0 = nI (q 2) ∧ gI S' 53 bo 0 = nI n) ∧ AR S' 49 bo (bo + 1) 23 6 ∧ AR S' 51 bo (bo + 2) 20 6 ∧ ∀ p, p < 6 → gR S' 0 (bo + 1) p = gR S 0 (la + 1) p
theorem BU_part (h : BU S S' bo la q n) (hX : PX S bo la q) {p : Nat} (hp : p < q 2) (h6 : q 2 ≤ 6) : ∃ a, gR S' 0 (bo + 1) p = some a ∧ a < bo ∧ kd S' a = 6 ∧ gI S' 82 a 0 = nI (q (4 + 15 * p)) ∧ ∃ w, w < bo ∧ AR S' 81 a w 20 (q (3 + 15 * p)) ∧ ∀ i, i < q (3 + 15 * p) → gI S' 0 w i = nI (q (6 + 15 * p + i)) := by
  obtain ⟨a, a1, a2, a3, a4, w, a5, ⟨a6, a7, a8⟩, a9⟩ := hX.2 p hp
  have sa := h.1 a a2
  have sw := h.1 w a5
  exact ⟨a, (h.2.2.2.2 p (by omega)).trans a1, a2, sa.1.trans a3, (sa.2.2.1 _ _).trans a4, w, a5, ⟨(sa.2.2.2 _ _).trans a6, sw.1.trans a7, sw.2.1.trans a8⟩, fun i hi => (sw.2.2.1 _ _).trans (a9 i hi)⟩
theorem BU_setA {g : Nat → Int32} (h : BU S S' bo la q n) : BU S (setA S' (bo + 2) g) bo la q n := by
  obtain ⟨h1, ⟨h2, h3, h4⟩, h5, h6, h7⟩ := h
  refine ⟨fun a ha => ⟨(h1 a ha).1, (h1 a ha).2.1, fun f i => ?_, (h1 a ha).2.2.2⟩, ⟨h2, ?_, ?_⟩, h5, h6, h7⟩
  · rw [gI_setA, if_neg (by omega)]
    exact (h1 a ha).2.2.1 f i
  · rw [gI_setA, if_neg (by omega)]
    exact h3
  · rw [gI_setA, if_neg (by omega)]
    exact h4
theorem c_order {Q : Int32 → Hp → Prop} (h : BU S S' bo la q n) (hX : PX S bo la q) (h6 : q 2 ≤ 6) (hPV : ∀ p, p < q 2 → PV q p) (hT : plK q 9 ≤ 40) (hQ : ∀ g : Nat → Int32, (∀ p, p < q 2 → g p = nI (frst q p)) → Q (nI (plK q 9)) (setA S' (bo + 2) g)) : wp_X3_order bo S' Q := by
  have hpl : ∀ k, k ≤ 9 → plK q k ≤ 40 := fun k hk => Nat.le_trans (plN_mono (q := q) (n := q 2) (k := k) 9 hk) hT
  have hp0 : plK q 1 = 0 := by
    have : ∀ m, m ≤ q 2 → inK q 0 m = 0 := by
      intro m
      induction m with
      | zero => intro _; rfl
      | succ m ih =>
        intro hm
        have := (hPV m (by omega)).2.1
        rw [inK, ih (by omega), if_neg (by omega)]
    show plN q (q 2) 0 + inK q 0 (q 2) = 0
    rw [this _ (Nat.le_refl _)]
    rfl
  refine Lp_of (fun m y => ∃ k g, 1 ≤ k ∧ k ≤ 9 ∧ m = 9 - k ∧ y = (nI (plK q k), nI k, setA S' (bo + 2) g) ∧ ∀ p, p < q 2 → q (4 + 15 * p) < k → g p = nI (frst q p)) (fun m y hy K hK => ?_) (n := 8) (x := (nI 0, nI 1, S')) ⟨1, gI S' 0 (bo + 2), by omega, by omega, rfl, by rw [hp0, setA_self], fun p hp hc => by have := (hPV p hp).2.1; omega⟩
  obtain ⟨k, g, hk1, hk9, rfl, rfl, hg⟩ := hy
  dsimp only
  have hplk := hpl k hk9
  refine ⟨fun hd => ?_, fun hd => ?_⟩
  · rw [li_8, nI_ltI (by omega) (by omega)] at hd
    obtain rfl : k = 9 := by omega
    exact hQ g (fun p hp => hg p hp (by have := (hPV p hp).2.1; omega))
  · rw [li_8, nI_ltI (by omega) (by omega)] at hd
    have hpl1 := hpl (k + 1) (by omega)
    have hpk1 : plK q k + inK q k (q 2) = plK q (k + 1) := rfl
    refine Lp_of (fun m y => ∃ i g, i ≤ q 2 ∧ m = q 2 - i ∧ y = (nI (plK q k + inK q k i), nI i, setA S' (bo + 2) g) ∧ ∀ p, p < q 2 → (q (4 + 15 * p) < k ∨ (q (4 + 15 * p) = k ∧ p < i)) → g p = nI (frst q p)) (fun m y hy K2 hK2 => ?_) (n := q 2) (x := (nI (plK q k), nI 0, setA S' (bo + 2) g)) ⟨0, g, by omega, rfl, rfl, fun p hp hc => hg p hp (by omega)⟩
    obtain ⟨i, g1, hi, rfl, rfl, hg1⟩ := hy
    dsimp only
    have hB := BU_setA (g := g1) h
    obtain ⟨b1, ⟨b2, b3, b4⟩, b5, b6, b7⟩ := id hB
    have him := inK_mono (q := q) (k := k) (i := i) (q 2) hi
    refine ⟨b2, fun he => ?_, fun he => ?_⟩
    · rw [b3, nI_leI (by omega) (by omega)] at he
      obtain rfl : i = q 2 := by omega
      rintro _ rfl
      rw [nI_1]
      exact hK _ (9 - (k + 1)) (by omega) ⟨k + 1, g1, by omega, by omega, rfl, rfl, fun p hp hc => hg1 p hp (by omega)⟩
    · rw [b3, nI_leI (by omega) (by omega)] at he
      obtain ⟨a, a1, a2, a3, a4, w, a5, a6, a7⟩ := BU_part hB hX (p := i) (by omega) h6
      obtain ⟨v1, v2, v3, v4⟩ := hPV i (by omega)
      refine ⟨b2, _, b5.1, b5.2.1, by rw [b5.2.2]; exact vp_li (by omega) (by omega), a, by rw [nI_clamp (by omega)]; exact a1, a3, fun hne => ?_, fun heq => ?_⟩
      · rw [a4, nI_ne (by omega) (by omega)] at hne
        rintro _ rfl
        rw [nI_1]
        refine hK2 _ (q 2 - (i + 1)) (by omega) ⟨i + 1, g1, by omega, rfl, ?_, fun p hp hc => hg1 p hp ?_⟩
        · rw [inK, if_neg hne]
          rfl
        · by_cases e : p = i
          · subst e
            omega
          · omega
      · rw [a4, nI_eq (by omega) (by omega)] at heq
        have hik : inK q k (i + 1) = inK q k i + sP q i := by rw [inK, if_pos heq]
        have him1 := inK_mono (q := q) (k := k) (i := i + 1) (q 2) (by omega)
        have hfr : frst q i = plK q k + inK q k i := by unfold frst; rw [heq]
        refine ⟨b2, _, b6.1, b6.2.1, by rw [b6.2.2]; exact vp_li (by omega) (by omega), ?_⟩
        rintro _ rfl
        rw [nI_clamp (by omega), setA_sI]
        have hB2 := BU_setA (g := va_up g1 i (nI (plK q k + inK q k i))) h
        obtain ⟨c1, ⟨c2, c3, c4⟩, c5, c6, c7⟩ := id hB2
        obtain ⟨a', a1', a2', a3', a4', w', a5', a6', a7'⟩ := BU_part hB2 hX (p := i) (by omega) h6
        refine ⟨c2, _, c5.1, c5.2.1, by rw [c5.2.2]; exact vp_li (by omega) (by omega), a', a1', a3', c_stripes a3' a6' a4' v1.2 v2.1 v2.2 ?_⟩
        rintro _ rfl _ rfl
        rw [nI_1, nI_add]
        refine hK2 _ (q 2 - (i + 1)) (by omega) ⟨i + 1, va_up g1 i (nI (plK q k + inK q k i)), by omega, rfl, ?_, fun p hp hc => ?_⟩
        · rw [hik, Nat.add_assoc]
          rfl
        · by_cases e : p = i
          · rw [e, va_up_self, hfr]
          · rw [va_up_ne _ _ e]
            exact hg1 p hp (by omega)
/-- a packet as it was made -/
def PkAt (S : Hp) (bo : Nat) (q : Nat → Nat) (t : Nat) : Prop := (gR S 0 (bo + 3) t = some (bo + 4 + 3 * t) ∧ kd S (bo + 4 + 3 * t) = 5 ∧ AR S 65 (bo + 4 + 3 * t) (bo + 5 + 3 * t) 20 40 ∧ AR S 66 (bo + 4 + 3 * t) (bo + 6 + 3 * t) 20 40) ∧ (gI S 67 (bo + 4 + 3 * t) 0 = nI (plK q 9) ∧ gI S 68 (bo + 4 + 3 * t) 0 = 0) ∧ ∀ p, p < q 2 → ∀ s, s < sP q p → gI S 0 (bo + 5 + 3 * t) (frst q p + s) = nI (vS q p s t) ∧ gI S 0 (bo + 6 + 3 * t) (frst q p + s) = nI (vS q p s t)
def BF (S' : Hp) (bo : Nat) (q : Nat → Nat) (n : Nat) : Prop := gI S' 54 bo 0 = nI (plK q 9) ∧ AR S' 52 bo (bo + 3) 22 n ∧ ∀ p, p < q 2 → gI S' 0 (bo + 2) p = nI (frst q p)
theorem BU_gx {S'' : Hp} {P : Nat → Nat → Prop} (hP : ∀ f a, P f a → bo + 4 ≤ a) (h : BU S S' bo la q n) (hG : Gx P S' S'') : BU S S'' bo la q n := by
  obtain ⟨h1, ⟨h2, h3, h4⟩, ⟨h5, h5', h5''⟩, ⟨h6, h6', h6''⟩, h7⟩ := h
  obtain ⟨gk, gs, gr, gi⟩ := hG
  refine ⟨fun a ha => ⟨((gk a).1).trans (h1 a ha).1, ((gk a).2).trans (h1 a ha).2.1, fun f i => (gi f a i (fun w => by have := hP f a w; omega)).trans ((h1 a ha).2.2.1 f i), fun f i => (gr f a i).trans ((h1 a ha).2.2.2 f i)⟩, ⟨((gk _).1).trans h2, (gi _ _ _ (fun w => by have := hP _ _ w; omega)).trans h3, (gi _ _ _ (fun w => by have := hP _ _ w; omega)).trans h4⟩, ⟨(gr _ _ _).trans h5, ((gk _).1).trans h5', ((gk _).2).trans h5''⟩, ⟨(gr _ _ _).trans h6, ((gk _).1).trans h6', ((gk _).2).trans h6''⟩, fun p hp => (gr _ _ _).trans (h7 p hp)⟩
/-- fill: all numbers of one packet -/
theorem c_fill {Q : Hp → Prop} {t : Nat} (h : BU S S' bo la q n) (hF : ∀ p, p < q 2 → gI S' 0 (bo + 2) p = nI (frst q p)) (hX : PX S bo la q) (h6 : q 2 ≤ 6) (hPV : ∀ p, p < q 2 → PV q p) (hT : plK q 9 ≤ 40) (ht : t < 8) (hk5 : kd S' (bo + 4 + 3 * t) = 5) (h65 : AR S' 65 (bo + 4 + 3 * t) (bo + 5 + 3 * t) 20 40) (h66 : AR S' 66 (bo + 4 + 3 * t) (bo + 6 + 3 * t) 20 40)
    (hQ : ∀ S'', Gx (fun f a => f = 0 ∧ (a = bo + 5 + 3 * t ∨ a = bo + 6 + 3 * t)) S' S'' → (∀ p, p < q 2 → ∀ s, s < sP q p → gI S'' 0 (bo + 5 + 3 * t) (frst q p + s) = nI (vS q p s t) ∧ gI S'' 0 (bo + 6 + 3 * t) (frst q p + s) = nI (vS q p s t)) → Q S'') : wp_X3_fill bo (bo + 4 + 3 * t) (nI (t + 1)) S' Q := by
  have hfr9 : ∀ p, p < q 2 → frst q p + sP q p ≤ 40 := fun p hp => by
    have := (hPV p hp).2.1
    exact Nat.le_trans (fr_lt hp (k := 9) (by omega)) hT
  refine Lp_of (fun m y => ∃ i S1, i ≤ q 2 ∧ m = q 2 - i ∧ y = (nI i, S1) ∧ Gx (fun f a => f = 0 ∧ (a = bo + 5 + 3 * t ∨ a = bo + 6 + 3 * t)) S' S1 ∧ ∀ p, p < i → ∀ s, s < sP q p → gI S1 0 (bo + 5 + 3 * t) (frst q p + s) = nI (vS q p s t) ∧ gI S1 0 (bo + 6 + 3 * t) (frst q p + s) = nI (vS q p s t)) (fun m y hy K hK => ?_) (n := q 2) (x := (nI 0, S')) ⟨0, S', by omega, rfl, rfl, Gx_rf, fun p hp => absurd hp (Nat.not_lt_zero p)⟩
  obtain ⟨i, S1, hi, rfl, rfl, hG, hv⟩ := hy
  dsimp only
  have hB1 := BU_gx (fun f a w => by have := w.2; omega) h hG
  obtain ⟨b1, ⟨b2, b3, b4⟩, b5, b6, b7⟩ := id hB1
  refine ⟨b2, fun he => ?_, fun he => ?_⟩
  · rw [b3, nI_leI (by omega) (by omega)] at he
    obtain rfl : i = q 2 := by omega
    exact hQ S1 hG hv
  · rw [b3, nI_leI (by omega) (by omega)] at he
    obtain ⟨a, a1, a2, a3, a4, w, a5, a6, a7⟩ := BU_part hB1 hX (p := i) (by omega) h6
    obtain ⟨v1, v2, v3, v4⟩ := hPV i (by omega)
    have hfi := hfr9 i (by omega)
    have hsl : sP q i ≤ 12 := stN_le v1.2 v2.1
    refine ⟨b2, _, b5.1, b5.2.1, by rw [b5.2.2]; exact vp_li (by omega) (by omega), a, by rw [nI_clamp (by omega)]; exact a1, a3, ?_⟩
    rintro _ rfl
    rw [a4]
    refine Lp_of (fun m y => ∃ s S2, s ≤ sP q i ∧ m = sP q i - s ∧ y = (nI s, S2) ∧ Gx (fun f a => f = 0 ∧ (a = bo + 5 + 3 * t ∨ a = bo + 6 + 3 * t)) S' S2 ∧ (∀ p, p < i → ∀ s, s < sP q p → gI S2 0 (bo + 5 + 3 * t) (frst q p + s) = nI (vS q p s t) ∧ gI S2 0 (bo + 6 + 3 * t) (frst q p + s) = nI (vS q p s t)) ∧ ∀ s', s' < s → gI S2 0 (bo + 5 + 3 * t) (frst q i + s') = nI (vS q i s' t) ∧ gI S2 0 (bo + 6 + 3 * t) (frst q i + s') = nI (vS q i s' t)) (fun m y hy K2 hK2 => ?_) (n := sP q i) (x := (nI 0, S1)) ⟨0, S1, by omega, rfl, rfl, hG, hv, fun s' hs' => absurd hs' (Nat.not_lt_zero s')⟩
    obtain ⟨s, S2, hs, rfl, rfl, hG2, hv2, hs2⟩ := hy
    dsimp only
    have hB2 := BU_gx (fun f a w => by have := w.2; omega) h hG2
    obtain ⟨c1, ⟨c2, c3, c4⟩, c5, c6, c7⟩ := id hB2
    obtain ⟨a', d1, d2, d3, d4, w', d5, d6, d7⟩ := BU_part hB2 hX (p := i) (by omega) h6
    have hfirst : gI S2 0 (bo + 2) i = nI (frst q i) := (hG2.2.2.2 _ _ _ (fun w => by have := w.2; omega)).trans (hF i (by omega))
    refine ⟨c2, _, c5.1, c5.2.1, by rw [c5.2.2]; exact vp_li (by omega) (by omega), a', by rw [nI_clamp (by omega)]; exact d1, d3, c_stripes d3 d6 d4 v1.2 v2.1 v2.2 ⟨fun hd => ?_, fun hd => ?_⟩⟩
    · have hd' : nI (sP q i) ≤ nI s := hd
      rw [nI_leI (by omega) (by omega)] at hd'
      obtain rfl : s = sP q i := by omega
      rintro _ rfl
      rw [nI_1]
      refine hK _ (q 2 - (i + 1)) (by omega) ⟨i + 1, S2, by omega, rfl, rfl, hG2, fun p hp => ?_⟩
      by_cases e : p = i
      · subst e
        exact hs2
      · exact hv2 p (by omega)
    · have hd' : ¬ nI (sP q i) ≤ nI s := hd
      rw [nI_leI (by omega) (by omega)] at hd'
      have hks : q (4 + 15 * i) * s ≤ 8 * 12 := Nat.mul_le_mul v2.2 (by omega)
      refine ⟨c2, _, c6.1, c6.2.1, by rw [c6.2.2]; exact vp_li (by omega) (by omega), c2, _, c5.1, c5.2.1, by rw [c5.2.2]; exact vp_li (by omega) (by omega), a', by rw [nI_clamp (by omega)]; exact d1, d3, w', d6.1, ?_⟩
      rw [nI_clamp (by omega), hfirst, pk_mul, nI_add, Nat.mul_comm s]
      refine c_valueAt (c := cur q i s) d6.2.1 d6.2.2 (by omega) (by omega) (by omega) (by omega) (fun j hj hlt => ?_) (fun j hj hlt => ?_) (fun j hj => ?_) ⟨((hG2.1 _).1).trans hk5, ?_⟩
      · rw [d7 _ hlt]
        unfold cur
        rw [if_pos hlt]
      · unfold cur
        rw [if_neg hlt]
      · unfold cur
        split
        · rename_i wlt
          have := v4 _ wlt
          omega
        · omega
      · have ev : at29 (cur q i s) (q (4 + 15 * i)) (t + 1) = vS q i s t := rfl
        rw [ev]
        refine c_withinB (a := 0) (b := 39) rfl rfl (by omega) (fun j _ hj hx => ⟨fun z => absurd z (by decide), fun _ => ?_⟩) (fun hn => ?_)
        · refine ⟨((hG2.1 _).1).trans hk5, _, (hG2.2.2.1 _ _ _).trans h65.1, ((hG2.1 _).1).trans h65.2.1, by rw [(hG2.1 _).2, h65.2.2]; exact vp_li (by omega) (by omega), ?_⟩
          rintro _ rfl
          refine ⟨((hG2.1 _).1).trans hk5, _, (hG2.2.2.1 _ _ _).trans h66.1, ((hG2.1 _).1).trans h66.2.1, by rw [ln_sI, (hG2.1 _).2, h66.2.2]; exact vp_li (by omega) (by omega), ?_⟩
          rintro _ rfl _ rfl
          rw [nI_clamp (by omega), nI_1]
          refine hK2 _ (sP q i - (s + 1)) (by omega) ⟨s + 1, _, by omega, rfl, rfl, Gx_tr hG2 (Gx_tr (Gx_sI ⟨rfl, Or.inl rfl⟩) (Gx_sI ⟨rfl, Or.inr rfl⟩)), fun p hp s' hs' => ?_, fun s' hs' => ?_⟩
          · have hdj := fr_disj (q := q) (p := p) (r := i) (by omega) (by omega) (by omega)
            rw [gI_sI, if_neg (by omega), gI_sI, if_neg (by omega), gI_sI, if_neg (by omega), gI_sI, if_neg (by omega)]
            exact hv2 p hp s' hs'
          · by_cases e : s' = s
            · subst e
              rw [gI_sI, if_neg (by omega), gI_sI, if_pos ⟨rfl, rfl, rfl⟩, gI_sI, if_pos ⟨rfl, rfl, rfl⟩]
              exact ⟨rfl, rfl⟩
            · rw [gI_sI, if_neg (by omega), gI_sI, if_neg (by omega), gI_sI, if_neg (by omega), gI_sI, if_neg (by omega)]
              exact hs2 s' (by omega)
        · rw [nI_toInt (by omega)] at hn
          omega
end CPKD
