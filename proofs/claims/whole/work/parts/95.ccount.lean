section CCOUNT
variable {S S' : Hp} {x : Nat} {σ : Sg} {q : Nat → Nat}
theorem C_count {Q : Int32 → Hp → Prop} {w : Int32} (hS : CS S x σ) (hV : V σ.1) (h : ∀ S', CS S' x σ → KO x S S' → Q (oCount σ w) S') : wp_X11_count x w S Q := by
  obtain ⟨hC, hz, ht, h01, bo, nx, wd, ⟨hb, hbo⟩, ⟨hnx, h146, h147, hu⟩, hwk, hL, hB, hU⟩ := id hS
  obtain ⟨⟨f0, f1, f2, f3, f4, f5, f6⟩, ⟨t1, t2⟩, -, ⟨i1, i2⟩, ⟨j1, -⟩, ⟨c1, -⟩, m1, m2, m3⟩ := id hC
  obtain ⟨g0, ⟨g1, g2, g3, g4⟩, -⟩ := id hB
  have hs : ∀ S', Sc x S S' → Q (oCount σ w) S' := fun S' hsc => h S' (CS_sc hsc hS) (Sc_KO hsc)
  have h0 : Q (oCount σ w) S := h S hS (KO_rf x S)
  unfold oCount at hs h0
  refine ⟨fun e => ⟨f0, _, f3, i1, ?_⟩, fun n0 => ⟨fun e => ⟨f0, _, f3, i1, ?_⟩, fun n1 => ⟨fun e => ⟨f0, _, f3, i1, ?_⟩, fun n2 => ⟨fun e => ⟨f0, _, f3, i1, C_length i1 i2 hL hV ?_⟩, fun n3 => ⟨fun e => ⟨f0, _, f3, i1, C_fits i1 i2 hL hV ?_⟩, fun n4 => ⟨fun e => ⟨f0, _, f3, i1, C_cost i1 i2 hL hV ?_⟩, fun n5 => ⟨fun e => ⟨f0, f0, _, f3, _, f5, j1, C_makePlan hC hL hV (fun S' hsc hfit h99 hk => ⟨fun z => absurd z (by decide), fun _ => ?_⟩) (fun S' hsc hfit => ⟨fun _ => ?_, fun z => absurd rfl z⟩)⟩, fun n6 => ⟨fun e => ⟨f0, _, hb, g1, ?_⟩, fun n7 => ⟨fun e => ⟨f0, _, hb, g1, ?_⟩, fun n8 => ⟨fun e => ⟨f0, _, hb, g1, ?_⟩, fun n9 => ⟨fun e => ⟨f0, _, hb, g1, C_lost hB hV ?_⟩, fun n10 => ⟨fun e => ⟨f0, f0, _, f6, _, hb, g1, C_inState (st := 0) hC hbo hB hV (by omega) fun S' hsc => ?_⟩, fun n11 => ⟨fun e => ⟨f0, f0, _, f6, _, hb, g1, C_inState (st := 2) hC hbo hB hV (by omega) fun S' hsc => ?_⟩, fun n12 => ⟨fun e => ⟨f0, _, f4, m1, ?_⟩, fun n13 => ⟨fun e => ⟨f0, _, f1, t1, ?_⟩, fun n14 => ?_⟩⟩⟩⟩⟩⟩⟩⟩⟩⟩⟩⟩⟩⟩⟩
  · rw [if_pos e] at h0
    rw [hL.1.1]
    exact h0
  · rw [if_neg n0, if_pos e] at h0
    rw [hL.1.2.1]
    exact h0
  · rw [if_neg n0, if_neg n1, if_pos e] at h0
    rw [hL.1.2.2]
    exact h0
  · rw [if_neg n0, if_neg n1, if_neg n2, if_pos e] at h0
    exact h0
  · rw [if_neg n0, if_neg n1, if_neg n2, if_neg n3, if_pos e] at h0
    cases hq : fitB σ.1
    · rw [hq] at h0
      exact ⟨fun _ => h0, fun z => absurd rfl z⟩
    · rw [hq] at h0
      exact ⟨fun z => absurd z (by decide), fun _ => h0⟩
  · rw [if_neg n0, if_neg n1, if_neg n2, if_neg n3, if_neg n4, if_pos e] at h0
    exact h0
  · rw [if_neg n0, if_neg n1, if_neg n2, if_neg n3, if_neg n4, if_neg n5, if_pos e] at hs
    unfold oPlans at hs
    rw [if_pos hfit] at hs
    have hC1 := CK_sc hsc hC
    refine ⟨hC1.1.1, _, hC1.1.2.2.2.2.2.1, hC1.2.2.2.2.1.1, ?_⟩
    show Q (gI S' 99 (x + 33) 0) S'
    rw [h99]
    exact hs S' hsc
  · rw [if_neg n0, if_neg n1, if_neg n2, if_neg n3, if_neg n4, if_neg n5, if_pos e] at hs
    unfold oPlans at hs
    rw [if_neg hfit] at hs
    exact hs S' hsc
  · rw [if_neg n0, if_neg n1, if_neg n2, if_neg n3, if_neg n4, if_neg n5, if_neg n6, if_pos e] at h0
    rw [g2]
    exact h0
  · rw [if_neg n0, if_neg n1, if_neg n2, if_neg n3, if_neg n4, if_neg n5, if_neg n6, if_neg n7, if_pos e] at h0
    rw [g3]
    exact h0
  · rw [if_neg n0, if_neg n1, if_neg n2, if_neg n3, if_neg n4, if_neg n5, if_neg n6, if_neg n7, if_neg n8, if_pos e] at h0
    rw [g4]
    exact h0
  · rw [if_neg n0, if_neg n1, if_neg n2, if_neg n3, if_neg n4, if_neg n5, if_neg n6, if_neg n7, if_neg n8, if_neg n9, if_pos e] at h0
    exact h0
  · rw [if_neg n0, if_neg n1, if_neg n2, if_neg n3, if_neg n4, if_neg n5, if_neg n6, if_neg n7, if_neg n8, if_neg n9, if_neg n10, if_pos e] at hs
    exact hs S' hsc
  · rw [if_neg n0, if_neg n1, if_neg n2, if_neg n3, if_neg n4, if_neg n5, if_neg n6, if_neg n7, if_neg n8, if_neg n9, if_neg n10, if_neg n11, if_pos e] at hs
    exact hs S' hsc
  · rw [if_neg n0, if_neg n1, if_neg n2, if_neg n3, if_neg n4, if_neg n5, if_neg n6, if_neg n7, if_neg n8, if_neg n9, if_neg n10, if_neg n11, if_neg n12, if_pos e] at h0
    rw [h147]
    exact h0
  · rw [if_neg n0, if_neg n1, if_neg n2, if_neg n3, if_neg n4, if_neg n5, if_neg n6, if_neg n7, if_neg n8, if_neg n9, if_neg n10, if_neg n11, if_neg n12, if_neg n13, if_pos e] at h0
    rw [ht.1]
    exact h0
  · rw [if_neg n0, if_neg n1, if_neg n2, if_neg n3, if_neg n4, if_neg n5, if_neg n6, if_neg n7, if_neg n8, if_neg n9, if_neg n10, if_neg n11, if_neg n12, if_neg n13, if_neg n14] at h0
    exact h0
/-! ===== rows stay within their bounds ===== -/
theorem V_up {k v : Nat} (hV : V q) (hk : k ≠ 0 ∧ k ≠ 1 ∧ k ≠ 2) (hp : ∀ p, p < q 2 → PV (va_up q k v) p) (h93 : k < 93) : V (va_up q k v) := by
  have e : ∀ j, j ≠ k → va_up q k v j = q j := fun j hj => va_up_ne _ _ hj
  refine V_line hV (fun j hj => e j (by omega)) (by rw [e 0 (by omega)]; exact hV.1) (by rw [e 1 (by omega)]; exact hV.2.1) (by rw [e 2 (by omega)]; exact hV.2.2.1) (fun p hp' => ?_)
  rw [e 2 (by omega)] at hp'
  exact hp p hp'
theorem V_0 {v : Nat} (hV : V q) (h1 : 1 ≤ v) (h8 : v ≤ 8) : V (va_up q 0 v) := by
  have e : ∀ j, j ≠ 0 → va_up q 0 v j = q j := fun j hj => va_up_ne _ _ hj
  refine V_line hV (fun j hj => e j (by omega)) (by rw [va_up_self]; exact ⟨h1, h8⟩) (by rw [e 1 (by omega)]; exact hV.2.1) (by rw [e 2 (by omega)]; exact hV.2.2.1) (fun p hp' => ?_)
  rw [e 2 (by omega)] at hp'
  unfold PV
  rw [e _ (by omega), e _ (by omega), e _ (by omega)]
  obtain ⟨a1, a2, a3, a4⟩ := hV.2.2.2.1 p hp'
  exact ⟨a1, a2, a3, fun i hi => by rw [e _ (by omega)]; exact a4 i hi⟩
theorem V_1 {v : Nat} (hV : V q) (h1 : 1 ≤ v) (h8 : v ≤ 40) : V (va_up q 1 v) := by
  have e : ∀ j, j ≠ 1 → va_up q 1 v j = q j := fun j hj => va_up_ne _ _ hj
  refine V_line hV (fun j hj => e j (by omega)) (by rw [e 0 (by omega)]; exact hV.1) (by rw [va_up_self]; exact ⟨h1, h8⟩) (by rw [e 2 (by omega)]; exact hV.2.2.1) (fun p hp' => ?_)
  rw [e 2 (by omega)] at hp'
  unfold PV
  rw [e _ (by omega), e _ (by omega), e _ (by omega)]
  obtain ⟨a1, a2, a3, a4⟩ := hV.2.2.2.1 p hp'
  exact ⟨a1, a2, a3, fun i hi => by rw [e _ (by omega)]; exact a4 i hi⟩
theorem V_4 {r v : Nat} (hV : V q) (hr : r < q 2) (h1 : 1 ≤ v) (h8 : v ≤ 8) : V (va_up q (4 + 15 * r) v) := by
  have h6 := hV.2.2.1
  have e : ∀ j, j ≠ 4 + 15 * r → va_up q (4 + 15 * r) v j = q j := fun j hj => va_up_ne _ _ hj
  refine V_up hV (by omega) (fun p hp => ?_) (by omega)
  obtain ⟨a1, a2, a3, a4⟩ := hV.2.2.2.1 p hp
  unfold PV
  rw [e _ (by omega), e (5 + 15 * p) (by omega)]
  refine ⟨a1, ?_, a3, fun i hi => by rw [e _ (by omega)]; exact a4 i hi⟩
  by_cases c : p = r
  · rw [c, va_up_self]
    exact ⟨h1, h8⟩
  · rw [e _ (by omega)]
    exact a2
theorem V_5 {r v : Nat} (hV : V q) (hr : r < q 2) (h1 : 1 ≤ v) (h8 : v ≤ 9) : V (va_up q (5 + 15 * r) v) := by
  have h6 := hV.2.2.1
  have e : ∀ j, j ≠ 5 + 15 * r → va_up q (5 + 15 * r) v j = q j := fun j hj => va_up_ne _ _ hj
  refine V_up hV (by omega) (fun p hp => ?_) (by omega)
  obtain ⟨a1, a2, a3, a4⟩ := hV.2.2.2.1 p hp
  unfold PV
  rw [e _ (by omega), e (4 + 15 * p) (by omega)]
  refine ⟨a1, a2, ?_, fun i hi => by rw [e _ (by omega)]; exact a4 i hi⟩
  by_cases c : p = r
  · rw [c, va_up_self]
    exact ⟨h1, h8⟩
  · rw [e _ (by omega)]
    exact a3
theorem V_drop {r : Nat} (hV : V q) (hr : r < q 2) : V (dropR q r) := by
  have h6 := hV.2.2.1
  have e2 : dropR q r 2 = q 2 - 1 := by unfold dropR; rw [if_pos rfl]
  have lo : ∀ k, k ≠ 2 → ¬ (3 + 15 * r ≤ k ∧ k < 3 + 15 * (q 2 - 1)) → dropR q r k = q k := fun k h1 h2 => by unfold dropR; rw [if_neg h1, if_neg h2]
  have mid : ∀ k, 3 + 15 * r ≤ k → k < 3 + 15 * (q 2 - 1) → dropR q r k = q (k + 15) := fun k h1 h2 => by unfold dropR; rw [if_neg (by omega), if_pos ⟨h1, h2⟩]
  refine V_line hV (fun k hk => lo k (by omega) (by omega)) (by rw [lo 0 (by omega) (by omega)]; exact hV.1) (by rw [lo 1 (by omega) (by omega)]; exact hV.2.1) (by omega) (fun p hp => ?_)
  rw [e2] at hp
  unfold PV
  by_cases c : p < r
  · obtain ⟨a1, a2, a3, a4⟩ := hV.2.2.2.1 p (by omega)
    rw [lo (3 + 15 * p) (by omega) (by omega), lo (4 + 15 * p) (by omega) (by omega), lo (5 + 15 * p) (by omega) (by omega)]
    exact ⟨a1, a2, a3, fun i hi => by rw [lo _ (by omega) (by omega)]; exact a4 i hi⟩
  · obtain ⟨a1, a2, a3, a4⟩ := hV.2.2.2.1 (p + 1) (by omega)
    rw [mid (3 + 15 * p) (by omega) (by omega), mid (4 + 15 * p) (by omega) (by omega), mid (5 + 15 * p) (by omega) (by omega), show 3 + 15 * p + 15 = 3 + 15 * (p + 1) by omega, show 4 + 15 * p + 15 = 4 + 15 * (p + 1) by omega, show 5 + 15 * p + 15 = 5 + 15 * (p + 1) by omega]
    exact ⟨a1, a2, a3, fun i hi => by rw [mid _ (by omega) (by omega), show 6 + 15 * p + i + 15 = 6 + 15 * (p + 1) + i by omega]; exact a4 i hi⟩
/-- only packets change -/
theorem V_pk {q' : Nat → Nat} (hV : V q) (hk : ∀ k, k < 114 → q' k = q k) (h7 : ∀ t, t < 8 → q' (114 + t) ≤ 1 ∧ q' (122 + t) ≤ q 95) (h8 : ∀ t, t < 8 → ∀ i, i < 40 → q' (130 + 40 * t + i) ≤ 28 ∧ q' (450 + 40 * t + i) ≤ 28) : V q' := by
  obtain ⟨v0, v1, v2, v3, v5, v6, v7, v8⟩ := hV
  refine ⟨by rw [hk 0 (by omega)]; exact v0, by rw [hk 1 (by omega)]; exact v1, by rw [hk 2 (by omega)]; exact v2, fun p hp => ?_, by rw [hk 93 (by omega), hk 94 (by omega), hk 95 (by omega)]; exact v5, fun p hp => ?_, fun t ht => by rw [hk 95 (by omega)]; exact h7 t ht, h8⟩
  · rw [hk 2 (by omega)] at hp
    obtain ⟨a1, a2, a3, a4⟩ := v3 p hp
    rw [hk _ (by omega), hk _ (by omega), hk _ (by omega)]
    exact ⟨a1, a2, a3, fun i hi => by rw [hk _ (by omega)]; exact a4 i hi⟩
  · rw [hk 93 (by omega)] at hp
    rw [hk (96 + 3 * p) (by omega), hk (97 + 3 * p) (by omega), hk (98 + 3 * p) (by omega), hk 94 (by omega), hk 95 (by omega)]
    exact v6 p hp
theorem V_114 {r : Nat} (hV : V q) (hr : r < 8) : V (va_up q (114 + r) 1) := by
  refine V_pk hV (fun k hk => va_up_ne _ _ (by omega)) (fun t ht => ?_) (fun t ht i hi => ?_)
  · rw [va_up_ne q 1 (show 122 + t ≠ 114 + r by omega)]
    by_cases c : t = r
    · rw [c, va_up_self]
      exact ⟨Nat.le_refl _, (hV.2.2.2.2.2.2.1 r hr).2⟩
    · rw [va_up_ne _ _ (by omega)]
      exact hV.2.2.2.2.2.2.1 t ht
  · rw [va_up_ne _ _ (by omega), va_up_ne _ _ (by omega)]
    exact hV.2.2.2.2.2.2.2 t ht i hi
theorem V_122 {r v : Nat} (hV : V q) (hr : r < 8) (hv : v ≤ q (122 + r)) : V (va_up q (122 + r) v) := by
  refine V_pk hV (fun k hk => va_up_ne _ _ (by omega)) (fun t ht => ?_) (fun t ht i hi => ?_)
  · rw [va_up_ne q v (show 114 + t ≠ 122 + r by omega)]
    by_cases c : t = r
    · rw [c, va_up_self]
      have := hV.2.2.2.2.2.2.1 r hr
      omega
    · rw [va_up_ne _ _ (by omega)]
      exact hV.2.2.2.2.2.2.1 t ht
  · rw [va_up_ne _ _ (by omega), va_up_ne _ _ (by omega)]
    exact hV.2.2.2.2.2.2.2 t ht i hi
theorem V_450 {r j v : Nat} (hV : V q) (hr : r < 8) (hj : j < 40) (hv : v ≤ 28) : V (va_up q (450 + 40 * r + j) v) := by
  refine V_pk hV (fun k hk => va_up_ne _ _ (by omega)) (fun t ht => ?_) (fun t ht i hi => ?_)
  · rw [va_up_ne _ _ (by omega), va_up_ne _ _ (by omega)]
    exact hV.2.2.2.2.2.2.1 t ht
  · have hb := hV.2.2.2.2.2.2.2 t ht i hi
    rw [va_up_ne q v (show 130 + 40 * t + i ≠ 450 + 40 * r + j by omega)]
    refine ⟨hb.1, ?_⟩
    unfold va_up
    split
    · exact hv
    · exact hb.2
theorem V_ag {r : Nat} (hV : V q) (hr : r < 8) : V (agR q r) := by
  have h95 := hV.2.2.2.2.1.2.2
  refine V_pk hV (fun k hk => ?_) (fun t ht => ?_) (fun t ht i hi => ?_)
  · unfold agR
    rw [if_neg (by omega), if_neg (by omega), if_neg (by omega)]
  · have hb := hV.2.2.2.2.2.2.1 t ht
    unfold agR
    rw [if_neg (by omega), if_neg (show ¬ (450 + 40 * r ≤ 122 + t ∧ 122 + t < 450 + 40 * r + q 95) by omega), if_neg (show ¬ 122 + t = 114 + r by omega)]
    refine ⟨?_, ?_⟩
    · split
      · omega
      · split
        · omega
        · exact hb.1
    · split
      · exact Nat.le_refl _
      · exact hb.2
  · have hb := hV.2.2.2.2.2.2.2 t ht i hi
    unfold agR
    rw [if_neg (show ¬ (450 + 40 * r ≤ 130 + 40 * t + i ∧ 130 + 40 * t + i < 450 + 40 * r + q 95) by omega), if_neg (by omega), if_neg (by omega)]
    refine ⟨hb.1, ?_⟩
    by_cases c : 450 + 40 * r ≤ 450 + 40 * t + i ∧ 450 + 40 * t + i < 450 + 40 * r + q 95
    · rw [if_pos c, show 450 + 40 * t + i - 320 = 130 + 40 * t + i by omega]
      exact hb.1
    · rw [if_neg c, if_neg (by omega), if_neg (by omega)]
      exact hb.2
end CCOUNT
