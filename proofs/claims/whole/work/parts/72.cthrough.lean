section CTHR
variable {S : Hp} {x : Nat} {e : Nat → Int} {T : List Nat} {k : Nat}
/-- the points' places -/
def Xp (T : List Nat) (j : Nat) : Int := (T.getD j 0 : Int) + 1
theorem dvd_mul29 {a b : Int} (h : (29 : Int) ∣ a) : (29 : Int) ∣ b * a := by
  obtain ⟨w, rfl⟩ := h
  exact ⟨b * w, by rw [← Int.mul_assoc, Int.mul_comm b 29, Int.mul_assoc]⟩
theorem c_dd {Q : Hp → Prop} (hC : CK S x) (h20 : gI S 20 (x + 43) 0 = nI k) (hk1 : 1 ≤ k) (hk8 : k ≤ 8) (hTl : T.length = k) (hTn : T.Nodup) (hT8 : ∀ t, t ∈ T → t < 8) (hch : ∀ i, i < k → gI S 0 (x + 46) i = nI (T.getD i 0 + 1)) (hsl : ∀ i, i < k → ∃ s : Nat, s < 29 ∧ gI S 0 (x + 47) i = nI s ∧ (29 : Int) ∣ (s : Int) - DD e (Xp T) 0 i) (he : S8 e 8) (h : ∀ S', Sc x S S' → (∀ f a i, ¬ (f = 0 ∧ a = x + 47) → gI S' f a i = gI S f a i) → (∀ i, i < k → ∃ s : Nat, s < 29 ∧ gI S' 0 (x + 47) i = nI s ∧ (29 : Int) ∣ (s : Int) - DD e (Xp T) i i) → Q S') : wp_X1_divideDifferences (x + 43) S Q := by
  obtain ⟨-, -, -, -, -, ⟨c1, c2, c3, c4, c5, c6⟩, -⟩ := id hC
  have hTD : ∀ i, i < k → T.getD i 0 < 8 := fun i hi => hT8 _ (by rw [getD_at (by omega)]; exact List.getElem_mem _)
  refine Lp_of (fun n y => ∃ j S', 1 ≤ j ∧ j ≤ k ∧ n = k - j ∧ y = (nI j, S') ∧ Sc x S S' ∧ (∀ f a i, ¬ (f = 0 ∧ a = x + 47) → gI S' f a i = gI S f a i) ∧ (∀ i, i < k → ∃ s : Nat, s < 29 ∧ gI S' 0 (x + 47) i = nI s ∧ (29 : Int) ∣ (s : Int) - DD e (Xp T) (min i (j - 1)) i)) (fun n y hy K hK => ?_) (n := k - 1) (x := (nI 1, S)) ⟨1, S, by omega, hk1, rfl, rfl, Sc_rf x S, fun _ _ _ _ => rfl, fun i hi => by rw [show min i (1 - 1) = 0 by omega]; exact hsl i hi⟩
  obtain ⟨j, S1, hj1, hjk, rfl, rfl, hsc, hun, hs1⟩ := hy
  obtain ⟨sk, ssz, sr, si⟩ := id hsc
  have e20 : gI S1 20 (x + 43) 0 = nI k := (hun _ _ _ (by omega)).trans h20
  refine ⟨((sk _).1).trans c1, fun hc => ?_, fun hc => ⟨((sk _).1).trans c1, ?_⟩⟩
  · dsimp only at hc ⊢
    rw [e20, nI_leI (by omega) (by omega)] at hc
    obtain rfl : j = k := by omega
    exact h S1 hsc hun fun i hi => by
      have := hs1 i hi
      rw [show min i (j - 1) = i by omega] at this
      exact this
  · dsimp only at hc ⊢
    rw [e20, nI_leI (by omega) (by omega)] at hc
    rintro _ rfl
    rw [e20, li_1, pk_sub (by omega)]
    refine Lp_of (fun n y => ∃ i S', j - 1 ≤ i ∧ i ≤ k - 1 ∧ i = n ∧ y = (nI i, S') ∧ Sc x S S' ∧ (∀ f a i, ¬ (f = 0 ∧ a = x + 47) → gI S' f a i = gI S f a i) ∧ (∀ l, l < k → ∃ s : Nat, s < 29 ∧ gI S' 0 (x + 47) l = nI s ∧ (29 : Int) ∣ (s : Int) - DD e (Xp T) (if i < l then min l j else min l (j - 1)) l)) (fun n y hy K2 hK2 => ?_) (n := k - 1) (x := (nI (k - 1), S1)) ⟨k - 1, S1, by omega, Nat.le_refl _, rfl, rfl, hsc, hun, fun l hl => by rw [if_neg (by omega)]; exact hs1 l hl⟩
    obtain ⟨i, S2, hij, hik, rfl, rfl, hsc2, hun2, hs2⟩ := hy
    obtain ⟨sk2, ssz2, sr2, si2⟩ := id hsc2
    refine ⟨fun hd => ?_, fun hd => ?_⟩
    · dsimp only at hd ⊢
      rw [nI_ltI (by omega) (by omega)] at hd
      rintro _ rfl
      rw [nI_1]
      refine hK _ (k - (j + 1)) (by omega) ⟨j + 1, S2, by omega, by omega, rfl, rfl, hsc2, hun2, fun l hl => ?_⟩
      have := hs2 l hl
      by_cases hil : i < l
      · rw [if_pos hil] at this
        rw [show j + 1 - 1 = j by omega]
        exact this
      · rw [if_neg hil] at this
        rw [show min l (j + 1 - 1) = min l (j - 1) by omega]
        exact this
    · dsimp only at hd ⊢
      rw [nI_ltI (by omega) (by omega)] at hd
      have ech : ∀ l, l < k → gI S2 0 (x + 46) l = nI (T.getD l 0 + 1) := fun l hl => (hun2 _ _ _ (by omega)).trans (hch l hl)
      obtain ⟨s1, s1l, s1g, s1d⟩ := hs2 i (by omega)
      obtain ⟨s0, s0l, s0g, s0d⟩ := hs2 (i - 1) (by omega)
      rw [if_neg (by omega), show min i (j - 1) = j - 1 by omega] at s1d
      rw [if_neg (by omega), show min (i - 1) (j - 1) = j - 1 by omega] at s0d
      have hti := hTD i (by omega)
      have htj := hTD (i - j) (by omega)
      have hne : T.getD i 0 ≠ T.getD (i - j) 0 := fun w => by
        rw [getD_at (by omega), getD_at (by omega)] at w
        have := (List.getElem_inj hTn).mp w
        omega
      have hst := DD_step (e := e) (X := Xp T) he (m := j - 1) (i := i) (by omega)
      rw [show j - 1 + 1 = j by omega] at hst
      have hXd : Xp T i - Xp T (i - j) = (T.getD i 0 : Int) - (T.getD (i - j) 0 : Int) := by
        unfold Xp
        omega
      rw [hXd] at hst
      refine ⟨((sk2 _).1).trans c1, _, (sr2 _ _ _).trans c4.1, ((sk2 _).1).trans c4.2.1, by rw [(sk2 _).2, c4.2.2]; exact vp_li (by omega) (by omega), ((sk2 _).1).trans c1, _, (sr2 _ _ _).trans c4.1, ((sk2 _).1).trans c4.2.1, by rw [pk_sub (by omega), (sk2 _).2, c4.2.2]; exact vp_li (by omega) (by omega), ?_⟩
      rw [pk_sub (by omega), nI_clamp (by omega), nI_clamp (by omega), ech i (by omega), ech (i - j) (by omega)]
      refine j_fm (z := ((T.getD i 0 + 1 : Nat) : Int) - ((T.getD (i - j) 0 + 1 : Nat) : Int)) (pk_sub_toInt (by omega) (by omega)) (by omega) (by omega) fun r hr hrd => ⟨vp_li hr (by omega), ?_⟩
      have hr0 : r ≠ 0 := fun w => by
        rw [w] at hrd
        omega
      obtain ⟨v, hv29, hvT, hv1⟩ := inv_ok r hr hr0
      rw [nI_clamp (by omega), hvT]
      rintro _ rfl
      refine ⟨((sk2 _).1).trans c1, ((sk2 _).1).trans c1, _, (sr2 _ _ _).trans c5.1, ((sk2 _).1).trans c5.2.1, by rw [(sk2 _).2, c5.2.2]; exact vp_li (by omega) (by omega), ((sk2 _).1).trans c1, _, (sr2 _ _ _).trans c5.1, ((sk2 _).1).trans c5.2.1, by rw [li_1, pk_sub (by omega), (sk2 _).2, c5.2.2]; exact vp_li (by omega) (by omega), ?_⟩
      rw [li_1, pk_sub (by omega), nI_clamp (by omega), s1g, s0g]
      have htoInt : ((nI s1 - nI s0) * nI v).toInt = ((s1 : Int) - s0) * v := by
        have hb1 : -(28 * 28) ≤ ((s1 : Int) - s0) * v := by
          have : (s0 : Int) * v ≤ 28 * 28 := by
            have h3 : s0 * v ≤ 28 * 28 := Nat.mul_le_mul (by omega) (by omega)
            have h4 : ((s0 * v : Nat) : Int) ≤ 28 * 28 := by omega
            rw [Int.natCast_mul] at h4
            exact h4
          have h5 : (0 : Int) ≤ (s1 : Int) * v := by
            have : ((s1 * v : Nat) : Int) = (s1 : Int) * v := Int.natCast_mul _ _
            omega
          rw [Int.sub_mul]
          omega
        have hb2 : ((s1 : Int) - s0) * v ≤ 28 * 28 := by
          have : (s1 : Int) * v ≤ 28 * 28 := by
            have h3 : s1 * v ≤ 28 * 28 := Nat.mul_le_mul (by omega) (by omega)
            have h4 : ((s1 * v : Nat) : Int) ≤ 28 * 28 := by omega
            rw [Int.natCast_mul] at h4
            exact h4
          have h5 : (0 : Int) ≤ (s0 : Int) * v := by
            have : ((s0 * v : Nat) : Int) = (s0 : Int) * v := Int.natCast_mul _ _
            omega
          rw [Int.sub_mul]
          omega
        rw [Int32.toInt_mul, pk_sub_toInt (by omega) (by omega), nI_toInt (by omega)]
        exact Int.bmod_eq_of_le (by omega) (by omega)
      have hz1 : -1000 ≤ ((s1 : Int) - s0) * v ∧ ((s1 : Int) - s0) * v ≤ 1000 := by
        have a1 : s1 * v ≤ 28 * 28 := Nat.mul_le_mul (by omega) (by omega)
        have a2 : s0 * v ≤ 28 * 28 := Nat.mul_le_mul (by omega) (by omega)
        have b1 : ((s1 * v : Nat) : Int) = (s1 : Int) * v := Int.natCast_mul _ _
        have b2 : ((s0 * v : Nat) : Int) = (s0 : Int) * v := Int.natCast_mul _ _
        rw [Int.sub_mul]
        omega
      refine j_fm htoInt hz1.1 hz1.2 fun r2 hr2 hr2d => ⟨((sk2 _).1).trans c5.2.1, by rw [(sk2 _).2, c5.2.2]; exact vp_li (by omega) (by omega), ?_⟩
      rintro _ rfl _ rfl
      have hmi : nI i + (-1) = nI (i - 1) := by
        obtain ⟨i', rfl⟩ : ∃ i', i = i' + 1 := ⟨i - 1, by omega⟩
        rw [pk_m1]
        rfl
      rw [show (-nI 1 : Int32) = -1 from rfl, hmi]
      refine hK2 _ (i - 1) (by omega) ⟨i - 1, _, by omega, by omega, rfl, rfl, Sc_tr hsc2 (Sc_sI (by omega)), fun f a l hfa => by rw [gI_sI, if_neg (by omega)]; exact hun2 f a l hfa, fun l hl => ?_⟩
      by_cases hli : l = i
      · subst hli
        refine ⟨r2, hr2, by rw [gI_sI, if_pos ⟨rfl, rfl, rfl⟩], ?_⟩
        rw [if_pos (by omega), show min l j = j by omega]
        -- r2 = (s1 - s0) v, and v is over the difference
        generalize DD e (Xp T) j l = Z at hst ⊢
        generalize DD e (Xp T) (j - 1) l = A at hst s1d
        generalize DD e (Xp T) (j - 1) (l - 1) = B at hst s0d
        have d1 : (29 : Int) ∣ ((s1 : Int) - s0) * v - (A - B) * v := by
          rw [← Int.sub_mul, Int.mul_comm]
          exact dvd_mul29 (by omega)
        rw [hst] at d1
        have d2 : (29 : Int) ∣ ((T.getD l 0 : Int) - (T.getD (l - j) 0 : Int)) * Z * v - (r : Int) * Z * v := by
          rw [← Int.sub_mul, ← Int.sub_mul, Int.mul_comm, Int.mul_comm _ Z]
          exact dvd_mul29 (dvd_mul29 (by omega))
        have d3 : (29 : Int) ∣ (r : Int) * Z * v - Z := by
          have hm := md29 (r * v)
          rw [hv1, Int.natCast_mul] at hm
          have e3 : (r : Int) * Z * v - Z = Z * ((r : Int) * v - 1) := by
            rw [Int.mul_sub, Int.mul_one, Int.mul_comm (r : Int) Z, Int.mul_assoc]
          rw [e3]
          exact dvd_mul29 (by omega)
        omega
      · obtain ⟨s, sl, sg, sd⟩ := hs2 l hl
        refine ⟨s, sl, by rw [gI_sI, if_neg (by omega)]; exact sg, ?_⟩
        by_cases hil : i < l
        · rw [if_pos hil] at sd
          rw [if_pos (by omega)]
          exact sd
        · rw [if_neg hil] at sd
          rw [if_neg (by omega)]
          exact sd
theorem c_mo {Q : Hp → Prop} (hC : CK S x) (h20 : gI S 20 (x + 43) 0 = nI k) (hk1 : 1 ≤ k) (hk8 : k ≤ 8) (hT8 : ∀ i, i < k → T.getD i 0 < 8) (hch : ∀ i, i < k → gI S 0 (x + 46) i = nI (T.getD i 0 + 1)) (hsl : ∀ i, i < k → ∃ s : Nat, s < 29 ∧ gI S 0 (x + 47) i = nI s ∧ (29 : Int) ∣ (s : Int) - DD e (Xp T) i i) (he : S8 e k) (h : ∀ S', Sc x S S' → (∀ f a i, ¬ (f = 0 ∧ a = x + 48) → gI S' f a i = gI S f a i) → (∀ i, i < k → ∃ s : Nat, s < 29 ∧ gI S' 0 (x + 48) i = nI s ∧ (29 : Int) ∣ (s : Int) - e i) → Q S') : wp_X1_multiplyOut (x + 43) S Q := by
  obtain ⟨-, -, -, -, -, ⟨c1, c2, c3, c4, c5, c6⟩, -⟩ := id hC
  have he8 : S8 e 8 := S8_le he hk8
  have main : ∀ S0, Sc x S S0 → (∀ f a i, ¬ (f = 0 ∧ a = x + 48) → gI S0 f a i = gI S f a i) → (∀ j, j < k → gI S0 0 (x + 48) j = 0) → wp_X1_multiplyOut_30 Q (x + 43) (dn k) S0 := by
    intro S0 hsc0 hun0 hz0
    refine Lp_of (fun n y => ∃ i S', i ≤ k ∧ i = n ∧ y = (dn i, S') ∧ Sc x S S' ∧ (∀ f a i, ¬ (f = 0 ∧ a = x + 48) → gI S' f a i = gI S f a i) ∧ (∀ j, j < k → ∃ s : Nat, s < 29 ∧ gI S' 0 (x + 48) j = nI s ∧ (29 : Int) ∣ (s : Int) - Qp e (Xp T) 0 i j)) (fun n y hy K hK => ?_) (n := k) (x := (dn k, S0)) ⟨k, S0, Nat.le_refl _, rfl, rfl, hsc0, hun0, fun j hj => ⟨0, by omega, hz0 j hj, by rw [Qp_S he 0 k j (by omega)]; exact ⟨0, rfl⟩⟩⟩
    obtain ⟨i1, S1, hi1, rfl, rfl, hsc, hun, hn1⟩ := hy
    obtain ⟨sk, ssz, sr, si⟩ := id hsc
    refine ⟨fun hc => ?_, fun hc => ⟨((sk _).1).trans c1, ?_⟩⟩
    · dsimp only at hc ⊢
      rw [dn_lt0 (by omega)] at hc
      subst hc
      exact h S1 hsc hun hn1
    · dsimp only at hc ⊢
      rw [dn_lt0 (by omega)] at hc
      obtain ⟨i, rfl⟩ : ∃ i, i1 = i + 1 := ⟨i1 - 1, by omega⟩
      have e20 : gI S1 20 (x + 43) 0 = nI k := (hun _ _ _ (by omega)).trans h20
      rw [e20, li_1, pk_sub (by omega), dn_s]
      rintro _ rfl
      have hgE := qv_E1 (g := Qp e (Xp T) 0 i) (u := Xp T i) (Qp_S8 he8 0 i)
      have hg0 := qv_E (g := Qp e (Xp T) 0 i) (u := Xp T i) (Qp_S8 he8 0 i)
      have hQs : Qp e (Xp T) 0 (i + 1) = qv (Qp e (Xp T) 0 i) (Xp T i) := by
        show qv (Qp e (Xp T) 0 i) (Xp T (0 + i)) = _
        rw [Nat.zero_add]
      rw [← hQs] at hgE hg0
      have hti := hT8 i (by omega)
      refine Lp_of (fun n y => ∃ r S', r ≤ k - 1 ∧ r = n ∧ y = (nI r, S') ∧ Sc x S S' ∧ (∀ f a i, ¬ (f = 0 ∧ a = x + 48) → gI S' f a i = gI S f a i) ∧ (∀ j, j < k → ∃ s : Nat, s < 29 ∧ gI S' 0 (x + 48) j = nI s ∧ (29 : Int) ∣ (s : Int) - (if r < j then Qp e (Xp T) 0 i j else Qp e (Xp T) 0 (i + 1) j))) (fun n y hy K2 hK2 => ?_) (n := k - 1) (x := (nI (k - 1), S1)) ⟨k - 1, S1, Nat.le_refl _, rfl, rfl, hsc, hun, fun j hj => by rw [if_neg (by omega)]; exact hn1 j hj⟩
      obtain ⟨r, S2, hr, rfl, rfl, hsc2, hun2, hn2⟩ := hy
      obtain ⟨sk2, ssz2, sr2, si2⟩ := id hsc2
      have ech : gI S2 0 (x + 46) i = nI (T.getD i 0 + 1) := (hun2 _ _ _ (by omega)).trans (hch i (by omega))
      have hXi : Xp T i = ((T.getD i 0 + 1 : Nat) : Int) := by
        unfold Xp
        omega
      -- the number that is put: z less place times old
      have mulb : ∀ s : Nat, s < 29 → (T.getD i 0 + 1) * s ≤ 8 * 28 := fun s hs => Nat.mul_le_mul (by omega) (by omega)
      refine ⟨fun hd => ?_, fun hd => ?_⟩
      · dsimp only at hd ⊢
        rw [li_1, nI_ltI (by omega) (by omega)] at hd
        obtain rfl : r = 0 := by omega
        obtain ⟨sl, sll, slg, sld⟩ := hsl i (by omega)
        obtain ⟨s0, s0l, s0g, s0d⟩ := hn2 0 (by omega)
        rw [if_neg (by omega)] at s0d
        have esl : gI S2 0 (x + 47) i = nI sl := (hun2 _ _ _ (by omega)).trans slg
        refine ⟨((sk2 _).1).trans c1, ((sk2 _).1).trans c1, _, (sr2 _ _ _).trans c5.1, ((sk2 _).1).trans c5.2.1, by rw [(sk2 _).2, c5.2.2]; exact vp_li (by omega) (by omega), ((sk2 _).1).trans c1, _, (sr2 _ _ _).trans c4.1, ((sk2 _).1).trans c4.2.1, by rw [(sk2 _).2, c4.2.2]; exact vp_li (by omega) (by omega), ((sk2 _).1).trans c1, _, (sr2 _ _ _).trans c6.1, ((sk2 _).1).trans c6.2.1, by rw [(sk2 _).2, c6.2.2]; exact vp_li (n := 0) (by omega) (by omega), ?_⟩
        have g0 : gI S2 0 (x + 48) (0 : Int32).toNatClampNeg = nI s0 := s0g
        rw [nI_clamp (by omega), esl, ech, g0, pk_mul]
        have hmb := mulb s0 s0l
        refine j_fm (pk_sub_toInt (by omega) (by omega)) (by omega) (by omega) fun r2 hr2 hr2d => ⟨((sk2 _).1).trans c6.2.1, by rw [(sk2 _).2, c6.2.2]; exact vp_li (n := 0) (by omega) (by omega), ?_⟩
        rintro _ rfl _ rfl
        rw [dn_m]
        refine hK _ i (by omega) ⟨i, _, by omega, rfl, rfl, Sc_tr hsc2 (Sc_sI (by omega)), fun f a l hfa => by rw [gI_sI, if_neg (by omega)]; exact hun2 f a l hfa, fun j hj => ?_⟩
        by_cases hj0 : j = 0
        · subst hj0
          refine ⟨r2, hr2, by rw [gI_sI, if_pos ⟨rfl, rfl, rfl⟩], ?_⟩
          rw [hg0]
          have hDD : DD e (Xp T) i i = ev (Qp e (Xp T) 0 i) 8 (Xp T i) := by
            unfold DD
            rw [Nat.sub_self]
          rw [hDD] at sld
          rw [hXi]
          have d1 : (29 : Int) ∣ ((T.getD i 0 + 1 : Nat) : Int) * (s0 : Int) - ((T.getD i 0 + 1 : Nat) : Int) * Qp e (Xp T) 0 (i + 1) 0 := by
            rw [← Int.mul_sub]
            exact dvd_mul29 s0d
          rw [Int.natCast_mul] at hr2d
          rw [hXi] at sld
          omega
        · obtain ⟨s, sl2, sg, sd⟩ := hn2 j hj
          rw [if_pos (by omega)] at sd
          exact ⟨s, sl2, by rw [gI_sI, if_neg (by have : (0 : Int32).toNatClampNeg = 0 := rfl; omega)]; exact sg, sd⟩
      · dsimp only at hd ⊢
        rw [li_1, nI_ltI (by omega) (by omega)] at hd
        obtain ⟨s1, s1l, s1g, s1d⟩ := hn2 r (by omega)
        obtain ⟨s0, s0l, s0g, s0d⟩ := hn2 (r - 1) (by omega)
        rw [if_neg (by omega)] at s0d s1d
        refine ⟨((sk2 _).1).trans c1, ((sk2 _).1).trans c1, _, (sr2 _ _ _).trans c6.1, ((sk2 _).1).trans c6.2.1, by rw [li_1, pk_sub (by omega), (sk2 _).2, c6.2.2]; exact vp_li (by omega) (by omega), ((sk2 _).1).trans c1, _, (sr2 _ _ _).trans c4.1, ((sk2 _).1).trans c4.2.1, by rw [(sk2 _).2, c4.2.2]; exact vp_li (by omega) (by omega), ((sk2 _).1).trans c1, _, (sr2 _ _ _).trans c6.1, ((sk2 _).1).trans c6.2.1, by rw [(sk2 _).2, c6.2.2]; exact vp_li (by omega) (by omega), ?_⟩
        rw [li_1, pk_sub (by omega), nI_clamp (by omega), nI_clamp (by omega), nI_clamp (by omega), s0g, ech, s1g, pk_mul]
        have hmb := mulb s1 s1l
        refine j_fm (pk_sub_toInt (by omega) (by omega)) (by omega) (by omega) fun r2 hr2 hr2d => ⟨((sk2 _).1).trans c6.2.1, by rw [(sk2 _).2, c6.2.2]; exact vp_li (by omega) (by omega), ?_⟩
        rintro _ rfl _ rfl
        have hmi : nI r + (-1) = nI (r - 1) := by
          obtain ⟨r', rfl⟩ : ∃ r', r = r' + 1 := ⟨r - 1, by omega⟩
          rw [pk_m1]
          rfl
        rw [show (-nI 1 : Int32) = -1 from rfl, hmi]
        refine hK2 _ (r - 1) (by omega) ⟨r - 1, _, by omega, rfl, rfl, Sc_tr hsc2 (Sc_sI (by omega)), fun f a l hfa => by rw [gI_sI, if_neg (by omega)]; exact hun2 f a l hfa, fun j hj => ?_⟩
        by_cases hjr : j = r
        · subst hjr
          refine ⟨r2, hr2, by rw [gI_sI, if_pos ⟨rfl, rfl, rfl⟩], ?_⟩
          rw [if_pos (by omega)]
          have hE := hgE (j - 1)
          rw [show j - 1 + 1 = j by omega] at hE
          rw [hE, hXi]
          have d1 : (29 : Int) ∣ ((T.getD i 0 + 1 : Nat) : Int) * (s1 : Int) - ((T.getD i 0 + 1 : Nat) : Int) * Qp e (Xp T) 0 (i + 1) j := by
            rw [← Int.mul_sub]
            exact dvd_mul29 s1d
          rw [Int.natCast_mul] at hr2d
          omega
        · obtain ⟨s, sl2, sg, sd⟩ := hn2 j hj
          refine ⟨s, sl2, by rw [gI_sI, if_neg (by omega)]; exact sg, ?_⟩
          by_cases hrj : r < j
          · rw [if_pos hrj] at sd
            rw [if_pos (by omega)]
            exact sd
          · rw [if_neg hrj] at sd
            rw [if_neg (by omega)]
            exact sd
  refine Lp_of (fun n y => ∃ j S', j ≤ k ∧ n = k - j ∧ y = (nI j, S') ∧ Sc x S S' ∧ (∀ f a i, ¬ (f = 0 ∧ a = x + 48) → gI S' f a i = gI S f a i) ∧ (∀ l, l < j → gI S' 0 (x + 48) l = 0)) (fun n y hy K hK => ?_) (n := k) (x := (nI 0, S)) ⟨0, S, by omega, rfl, rfl, Sc_rf x S, fun _ _ _ _ => rfl, fun l hl => by omega⟩
  obtain ⟨j, S1, hj, rfl, rfl, hsc, hun, hz⟩ := hy
  obtain ⟨sk, ssz, sr, si⟩ := id hsc
  have e20 : gI S1 20 (x + 43) 0 = nI k := (hun _ _ _ (by omega)).trans h20
  refine ⟨((sk _).1).trans c1, fun hc => ⟨((sk _).1).trans c1, ?_⟩, fun hc => ⟨((sk _).1).trans c1, _, (sr _ _ _).trans c6.1, ((sk _).1).trans c6.2.1, ?_, ?_⟩⟩
  · dsimp only at hc ⊢
    rw [e20, nI_leI (by omega) (by omega)] at hc
    obtain rfl : j = k := by omega
    rw [e20]
    rintro _ rfl
    exact main S1 hsc hun hz
  · dsimp only at hc ⊢
    rw [e20, nI_leI (by omega) (by omega)] at hc
    rw [(sk _).2, c6.2.2]
    exact vp_li (by omega) (by omega)
  · dsimp only at hc ⊢
    rw [e20, nI_leI (by omega) (by omega)] at hc
    rintro _ rfl _ rfl
    rw [nI_clamp (by omega), nI_1]
    refine hK _ (k - (j + 1)) (by omega) ⟨j + 1, _, by omega, rfl, rfl, Sc_tr hsc (Sc_sI (by omega)), fun f a l hfa => by rw [gI_sI, if_neg (by omega)]; exact hun f a l hfa, fun l hl => ?_⟩
    by_cases e : l = j
    · subst e
      rw [gI_sI, if_pos ⟨rfl, rfl, rfl⟩]
    · rw [gI_sI, if_neg (by omega)]
      exact hz l (by omega)
end CTHR
