/-! ===== the constructors: reader, planner, curve, step, steps ===== -/
section INIT2
variable {S S' S'' S1 : Hp} {o z : Nat}
theorem Gw_tr {o2 z1 z2 : Nat} (h : Gw S S' o z1) (h' : Gw S' S'' o2 z2) (ho : o2 = o ∨ sz S ≤ o2) : Gw S S'' o z2 := by
  obtain ⟨a1, a2, ⟨a3, a4⟩, a5⟩ := h
  obtain ⟨b1, b2, ⟨b3, b4⟩, b5⟩ := h'
  refine ⟨fun a ha => ?_, fun a ha hne f i => ?_, ⟨b3, by omega⟩, b5⟩
  · obtain ⟨e1, e2⟩ := a1 a ha
    obtain ⟨e3, e4⟩ := b1 a (by omega)
    exact ⟨e3.trans e1, e4.trans e2⟩
  · obtain ⟨e1, e2⟩ := a2 a ha hne f i
    obtain ⟨e3, e4⟩ := b2 a (by omega) (by omega) f i
    exact ⟨e3.trans e1, e4.trans e2⟩
theorem Gw_nw2 (h : Gw S S' o z) : Gw S (nw2 S') o (z + 8) := by
  obtain ⟨h1, h2, ⟨h3, h4⟩, h5⟩ := h
  refine ⟨fun a ha => ?_, fun a ha hne f i => ?_, ⟨by rw [sz_nw2, h3], by omega⟩, fun a ha => ?_⟩
  · rw [kd_nw2, ln_nw2, h3, if_neg (by omega), if_neg (by omega), if_neg (by omega), if_neg (by omega)]
    exact h1 a ha
  · rw [gI_nw2, gR_nw2, h3, if_neg (by omega), if_neg (by omega), if_neg (by omega)]
    exact h2 a ha hne f i
  · rw [kd_nw2, h3, if_neg (by omega), if_neg (by omega)]
    exact h5 a (by omega)
/-- a new array of ints in a field -/
theorem ar_st (hsz : sz S = z) (hlt : o < z) (f n k : Nat) (hk : kd S o = k) : kd (nw S 20 n) o = k ∧ ∀ S', S' = sR (nw S 20 n) f o 0 (some (sz S)) → kd S' o = k ∧ sz S' = z + 1 ∧ AR S' f o z 20 n ∧ (∀ a, a ≠ z → kd S' a = kd S a ∧ ln S' a = ln S a) ∧ (∀ f' a i, a ≠ z → ¬ (f' = f ∧ a = o ∧ i = 0) → gR S' f' a i = gR S f' a i) ∧ (∀ f' a i, a ≠ z → gI S' f' a i = gI S f' a i) ∧ (∀ f' i, gI S' f' z i = 0) ∧ ∀ S0, Gw S0 S o z → Gw S0 S' o (z + 1) := by
  have k1 : kd (nw S 20 n) o = k := by rw [kd_nw, if_neg (by omega)]; exact hk
  refine ⟨k1, ?_⟩
  rintro _ rfl
  refine ⟨k1, by rw [sz_sR, sz_nw, hsz], ⟨?_, ?_, ?_⟩, fun a ha => ⟨?_, ?_⟩, fun f' a i ha hn => ?_, fun f' a i ha => ?_, fun f' i => ?_, fun S0 h => Gw_sR (Or.inl rfl) (Gw_nw h)⟩
  · rw [gR_sR, if_pos ⟨rfl, rfl, rfl⟩, hsz]
  · rw [kd_sR, kd_nw, hsz, if_pos rfl]
  · rw [ln_sR, ln_nw, hsz, if_pos rfl]
  · rw [kd_sR, kd_nw, hsz, if_neg ha]
  · rw [ln_sR, ln_nw, hsz, if_neg ha]
  · rw [gR_sR, if_neg hn, gR_nw, hsz, if_neg ha]
  · rw [gI_sR, gI_nw, hsz, if_neg ha]
  · rw [gI_sR, gI_nw, hsz, if_pos rfl]
theorem i_reader {Q : Hp → Prop} {a1 : Nat} (ho : kd S o = 8) (hlt : o < sz S) (hsz : sz S = z) (hz : ∀ a, sz S ≤ a → kd S a = 0) (hQ : ∀ S', Gw S S' o (z + 25) → gR S' 113 o 0 = some a1 → AR S' 114 o z 21 24 → (∀ c, c < 24 → gR S' 0 z c = some (z + 1 + c) ∧ kd S' (z + 1 + c) = 1) → Q S') : wp_X7_init o a1 S Q := by
  subst hsz
  refine ⟨ho, ?_⟩
  rintro _ rfl
  refine ⟨by omega, by omega, ?_⟩
  rintro _ rfl _ rfl
  have s1 : sz (sR S 113 o 0 (some a1)) = sz S := rfl
  rw [s1]
  have k3 : kd (nw (sR S 113 o 0 (some a1)) 21 24) o = 8 := by rw [kd_nw, s1, if_neg (by omega)]; exact ho
  refine ⟨k3, ?_⟩
  rintro _ rfl
  have g4 : Gw S (sR (nw (sR S 113 o 0 (some a1)) 21 24) 114 o 0 (some (sz S))) o (sz S + 1) := Gw_sR (Or.inl rfl) (Gw_nw (Gw_sR (Or.inl rfl) (Gw_rf hz)))
  have r4 : gR (sR (nw (sR S 113 o 0 (some a1)) 21 24) 114 o 0 (some (sz S))) 113 o 0 = some a1 := by rw [gR_sR, if_neg (by omega), gR_nw, s1, if_neg (by omega), gR_sR, if_pos ⟨rfl, rfl, rfl⟩]
  have a4 : AR (sR (nw (sR S 113 o 0 (some a1)) 21 24) 114 o 0 (some (sz S))) 114 o (sz S) 21 24 := ⟨by rw [gR_sR, if_pos ⟨rfl, rfl, rfl⟩], by rw [kd_sR, kd_nw, s1, if_pos rfl], by rw [ln_sR, ln_nw, s1, if_pos rfl]⟩
  clear s1 k3
  generalize sR (nw (sR S 113 o 0 (some a1)) 21 24) 114 o 0 (some (sz S)) = S4 at *
  refine Lp_of (fun n y => ∃ i S1 bc bs, i ≤ 24 ∧ n = 24 - i ∧ y = (nI i, S1, bc, bs) ∧ (bc + i = 24 ∧ bs + 5 * i = 120) ∧ Gw S S1 o (sz S + 1 + i) ∧ gR S1 113 o 0 = some a1 ∧ AR S1 114 o (sz S) 21 24 ∧ ∀ c, c < i → gR S1 0 (sz S) c = some (sz S + 1 + c) ∧ kd S1 (sz S + 1 + c) = 1) (fun n y hy K hK => ?_) (n := 24) (x := (nI 0, S4, 25 - 1, 144 - 24)) ⟨0, S4, _, _, by omega, rfl, rfl, by omega, g4, r4, a4, fun c hc => absurd hc (Nat.not_lt_zero c)⟩
  obtain ⟨i, S1, bc, bs, hi, rfl, rfl, ⟨b1, b2⟩, g1, r1, ⟨q1, q2, q3⟩, hp⟩ := hy
  dsimp only
  refine ⟨fun hc => ?_, fun hc => ?_⟩
  · rw [li_24, nI_leI (by omega) (by omega)] at hc
    obtain rfl : i = 24 := by omega
    exact hQ _ g1 r1 ⟨q1, q2, q3⟩ hp
  · rw [li_24, nI_leI (by omega) (by omega)] at hc
    have ko : kd S1 o = 8 := ((g1.1 o hlt).1).trans ho
    have s1 : sz S1 = sz S + 1 + i := g1.2.2.1.1
    refine ⟨ko, by omega, by omega, ?_⟩
    rintro _ rfl _ rfl
    refine ⟨_, q1, ?_, ?_, ?_, ?_⟩
    · rw [kd_nw, if_neg (by omega)]
      exact q2
    · rw [kd_nw, if_pos rfl]
    · rw [ln_nw, if_neg (by omega), q3]
      exact vp_li (by omega) (by omega)
    · rintro _ rfl _ rfl
      rw [nI_clamp (by omega), nI_1]
      refine hK _ (24 - (i + 1)) (by omega) ⟨i + 1, _, _, _, by omega, rfl, rfl, by omega, Gw_sR (Or.inr (Nat.le_refl _)) (Gw_nw g1), ?_, ⟨?_, ?_, ?_⟩, fun c hc' => ?_⟩
      · rw [gR_sR, if_neg (by omega), gR_nw, if_neg (by omega)]
        exact r1
      · rw [gR_sR, if_neg (by omega), gR_nw, if_neg (by omega)]
        exact q1
      · rw [kd_sR, kd_nw, if_neg (by omega)]
        exact q2
      · rw [ln_sR, ln_nw, if_neg (by omega)]
        exact q3
      · by_cases e : c = i
        · subst e
          exact ⟨by rw [gR_sR, if_pos ⟨rfl, rfl, rfl⟩, s1], by rw [kd_sR, kd_nw, if_pos s1.symm]⟩
        · exact ⟨by rw [gR_sR, if_neg (fun w => e w.2.2), gR_nw, if_neg (by omega)]; exact (hp c (by omega)).1, by rw [kd_sR, kd_nw, if_neg (by omega)]; exact (hp c (by omega)).2⟩
theorem i_planner {Q : Hp → Prop} (ho : kd S o = 7) (hlt : o < sz S) (hsz : sz S = z) (hz : ∀ a, sz S ≤ a → kd S a = 0) (hQ : ∀ S', Gw S S' o (z + 9) → AR S' 97 o z 25 7 → AR S' 98 o (z + 8) 20 6 → (∀ i, i < 7 → gR S' 0 z i = some (z + 1 + i) ∧ kd S' (z + 1 + i) = 20 ∧ ln S' (z + 1 + i) = 41) → Q S') : wp_X6_init o S Q := by
  subst hsz
  refine ⟨by omega, by omega, ?_⟩
  rintro _ rfl _ rfl
  have k2 : kd (nw2 S) o = 7 := by rw [kd_nw2, if_neg (by omega), if_neg (by omega)]; exact ho
  refine ⟨k2, ?_⟩
  rintro _ rfl
  refine ⟨by omega, by omega, ?_⟩
  rintro _ rfl _ rfl
  have s3 : sz (sR (nw2 S) 97 o 0 (some (sz S))) = sz S + 8 := rfl
  rw [s3]
  have k5 : kd (nw (sR (nw2 S) 97 o 0 (some (sz S))) 20 6) o = 7 := by rw [kd_nw, s3, if_neg (by omega)]; exact k2
  refine ⟨k5, ?_⟩
  rintro _ rfl
  refine hQ _ (Gw_sR (Or.inl rfl) (Gw_nw (Gw_sR (Or.inl rfl) (Gw_nw2 (Gw_rf hz))))) ⟨?_, ?_, ?_⟩ ⟨?_, ?_, ?_⟩ (fun i hi => ⟨?_, ?_, ?_⟩)
  · rw [gR_sR, if_neg (by omega), gR_nw, s3, if_neg (by omega), gR_sR, if_pos ⟨rfl, rfl, rfl⟩]
  · rw [kd_sR, kd_nw, s3, if_neg (by omega), kd_sR, kd_nw2, if_pos rfl]
  · rw [ln_sR, ln_nw, s3, if_neg (by omega), ln_sR, ln_nw2, if_pos rfl]
  · rw [gR_sR, if_pos ⟨rfl, rfl, rfl⟩]
  · rw [kd_sR, kd_nw, s3, if_pos rfl]
  · rw [ln_sR, ln_nw, s3, if_pos rfl]
  · rw [gR_sR, if_neg (by omega), gR_nw, s3, if_neg (by omega), gR_sR, if_neg (by omega), gR_nw2, if_pos rfl, if_pos ⟨rfl, hi⟩]
  · rw [kd_sR, kd_nw, s3, if_neg (by omega), kd_sR, kd_nw2, if_neg (by omega), if_pos (by omega)]
  · rw [ln_sR, ln_nw, s3, if_neg (by omega), ln_sR, ln_nw2, if_neg (by omega), if_pos (by omega)]
theorem AR_kp {f f' a k n w : Nat} (hkl : ∀ a, a ≠ w → kd S' a = kd S a ∧ ln S' a = ln S a) (hr : ∀ f' a i, a ≠ w → ¬ (f' = f ∧ a = o ∧ i = 0) → gR S' f' a i = gR S f' a i) (how : o ≠ w) (haw : a ≠ w) (hf : f' ≠ f) (h : AR S f' o a k n) : AR S' f' o a k n := ⟨by rw [hr f' o 0 how (fun w => hf w.1)]; exact h.1, by rw [(hkl a haw).1]; exact h.2.1, by rw [(hkl a haw).2]; exact h.2.2⟩
theorem i_curve {Q : Hp → Prop} (ho : kd S o = 2) (hlt : o < sz S) (hsz : sz S = z) (hz : ∀ a, sz S ≤ a → kd S a = 0) (hQ : ∀ S', Gw S S' o (z + 5) → AR S' 17 o z 20 8 → AR S' 18 o (z + 1) 20 8 → AR S' 21 o (z + 2) 20 8 → AR S' 22 o (z + 3) 20 8 → AR S' 23 o (z + 4) 20 8 → Q S') : wp_X1_init o S Q := by
  have g0 : Gw S S o z := by rw [← hsz]; exact Gw_rf hz
  refine ⟨by omega, by omega, ?_⟩
  rintro _ rfl _ rfl
  obtain ⟨k1, h1⟩ := ar_st hsz (by omega) 17 8 2 ho
  refine ⟨k1, fun T1 e1 => ?_⟩
  obtain ⟨o1, s1, a1, kl1, r1, -, -, g1⟩ := h1 T1 e1
  refine ⟨by omega, by omega, ?_⟩
  rintro _ rfl _ rfl
  obtain ⟨k2, h2⟩ := ar_st s1 (by omega) 18 8 2 o1
  refine ⟨k2, fun T2 e2 => ?_⟩
  obtain ⟨o2, s2, a2, kl2, r2, -, -, g2⟩ := h2 T2 e2
  refine ⟨by omega, by omega, ?_⟩
  rintro _ rfl _ rfl
  obtain ⟨k3, h3⟩ := ar_st s2 (by omega) 21 8 2 o2
  refine ⟨k3, fun T3 e3 => ?_⟩
  obtain ⟨o3, s3, a3, kl3, r3, -, -, g3⟩ := h3 T3 e3
  refine ⟨by omega, by omega, ?_⟩
  rintro _ rfl _ rfl
  obtain ⟨k4, h4⟩ := ar_st s3 (by omega) 22 8 2 o3
  refine ⟨k4, fun T4 e4 => ?_⟩
  obtain ⟨o4, s4, a4, kl4, r4, -, -, g4⟩ := h4 T4 e4
  refine ⟨by omega, by omega, ?_⟩
  rintro _ rfl _ rfl
  obtain ⟨k5, h5⟩ := ar_st s4 (by omega) 23 8 2 o4
  refine ⟨k5, fun T5 e5 => ?_⟩
  obtain ⟨o5, s5, a5, kl5, r5, -, -, g5⟩ := h5 T5 e5
  have b4 := AR_kp kl5 r5 (by omega) (by omega) (by omega) a4
  have b3 := AR_kp kl5 r5 (by omega) (by omega) (by omega) (AR_kp kl4 r4 (by omega) (by omega) (by omega) a3)
  have b2 := AR_kp kl5 r5 (by omega) (by omega) (by omega) (AR_kp kl4 r4 (by omega) (by omega) (by omega) (AR_kp kl3 r3 (by omega) (by omega) (by omega) a2))
  have b1 := AR_kp kl5 r5 (by omega) (by omega) (by omega) (AR_kp kl4 r4 (by omega) (by omega) (by omega) (AR_kp kl3 r3 (by omega) (by omega) (by omega) (AR_kp kl2 r2 (by omega) (by omega) (by omega) a1)))
  exact hQ T5 (g5 S (g4 S (g3 S (g2 S (g1 S g0))))) b1 b2 b3 b4 a5
/-- what a new step has -/
def StN (S : Hp) (o z : Nat) : Prop := gR S 129 o 0 = some z ∧ kd S z = 3 ∧ AR S 33 z (z + 1) 23 6 ∧ AR S 132 o (z + 4) 20 40
theorem StN_sR {a i : Nat} {v : Option Nat} (h : StN S o z) : StN (sR S 0 a i v) o z := by
  obtain ⟨h1, h2, h3, h4⟩ := h
  refine ⟨?_, h2, ⟨?_, h3.2⟩, ?_, h4.2⟩
  · rw [gR_sR, if_neg (by omega)]
    exact h1
  · rw [gR_sR, if_neg (by omega)]
    exact h3.1
  · rw [gR_sR, if_neg (by omega)]
    exact h4.1
theorem StN_F {w : Nat} (F : ∀ a, a < w → (kd S' a = kd S a ∧ ln S' a = ln S a) ∧ ∀ f i, gI S' f a i = gI S f a i ∧ gR S' f a i = gR S f a i) (ho : o < w) (hz : z + 4 < w) (h : StN S o z) : StN S' o z := by
  obtain ⟨h1, h2, ⟨h3, h4, h5⟩, h6, h7, h8⟩ := h
  refine ⟨?_, ?_, ⟨?_, ?_, ?_⟩, ?_, ?_, ?_⟩
  · rw [((F o ho).2 129 0).2]; exact h1
  · rw [(F z (by omega)).1.1]; exact h2
  · rw [((F z (by omega)).2 33 0).2]; exact h3
  · rw [(F (z + 1) (by omega)).1.1]; exact h4
  · rw [(F (z + 1) (by omega)).1.2]; exact h5
  · rw [((F o ho).2 132 0).2]; exact h6
  · rw [(F (z + 4) (by omega)).1.1]; exact h7
  · rw [(F (z + 4) (by omega)).1.2]; exact h8
theorem i_step {Q : Hp → Prop} {a1 : Nat} (ho : kd S o = 9) (hlt : o < sz S) (hsz : sz S = z) (hz : ∀ a, sz S ≤ a → kd S a = 0) (hQ : ∀ S', Gw S S' o (z + 5) → StN S' o z → gI S' 134 o 0 = gI S 134 o 0 → Q S') : wp_X8_init o a1 S Q := by
  subst hsz
  refine ⟨by omega, by omega, ?_⟩
  rintro _ rfl _ rfl
  refine ⟨by omega, by omega, ?_⟩
  have g2 : Gw S (nw S 3 0) o (sz S + 1) := Gw_nw (Gw_rf hz)
  refine i_line (S := nw S 3 0) (o := sz S) (z := sz S + 1) (by rw [kd_nw, if_pos rfl]) (by rw [sz_nw]; omega) rfl (fun a ha => g2.2.2.2 a ha) (fun S4 g4 hL => ?_)
  obtain ⟨⟨l1, l2, l3⟩, -, -, -⟩ := hL
  have g5 : Gw S S4 o (sz S + 4) := Gw_tr g2 g4 (Or.inr (Nat.le_refl _))
  have ko : kd S4 o = 9 := ((g5.1 o hlt).1).trans ho
  have k3 : kd S4 (sz S) = 3 := by
    rw [(g4.1 (sz S) (by rw [sz_nw]; omega)).1, kd_nw, if_pos rfl]
  have s4 : sz S4 = sz S + 4 := g5.2.2.1.1
  refine ⟨ko, ?_⟩
  rintro _ rfl
  refine ⟨ko, ?_⟩
  rintro _ rfl
  refine ⟨by omega, by omega, ?_⟩
  rintro _ rfl _ rfl
  have s6 : sz (sR (sR S4 129 o 0 (some (sz S))) 130 o 0 (some a1)) = sz S + 4 := s4
  obtain ⟨k8, h8⟩ := ar_st (S := sR (sR S4 129 o 0 (some (sz S))) 130 o 0 (some a1)) s6 (by omega) 132 40 9 ko
  refine ⟨k8, fun S9 e9 => ?_⟩
  obtain ⟨o9, s9, a9, kl9, r9, i9, -, g9⟩ := h8 S9 e9
  refine hQ S9 (g9 S (Gw_sR (Or.inl rfl) (Gw_sR (Or.inl rfl) g5))) ⟨?_, ?_, ⟨?_, ?_, ?_⟩, a9⟩ ?_
  · rw [r9 _ _ _ (by omega) (by omega), gR_sR, if_neg (by omega), gR_sR, if_pos ⟨rfl, rfl, rfl⟩]
  · rw [(kl9 _ (by omega)).1]
    exact k3
  · rw [r9 _ _ _ (by omega) (by omega), gR_sR, if_neg (by omega), gR_sR, if_neg (by omega)]
    exact l1
  · rw [(kl9 _ (by omega)).1]
    exact l2
  · rw [(kl9 _ (by omega)).2]
    exact l3
  · rw [i9 _ _ _ (by omega), gI_sR, gI_sR, (g4.2.1 o (by rw [sz_nw]; omega) (by omega) 134 0).1, gI_nw, if_neg (by omega)]
theorem i_steps {Q : Hp → Prop} {a1 : Nat} (ho : kd S o = 10) (hlt : o < sz S) (hsz : sz S = z) (hz : ∀ a, sz S ≤ a → kd S a = 0) (hQ : ∀ S', Gw S S' o (z + 49) → AR S' 145 o z 24 8 → (∀ f i, gI S' f o i = gI S f o i) → (∀ c, c < 8 → gR S' 0 z c = some (z + 1 + 6 * c) ∧ kd S' (z + 1 + 6 * c) = 9 ∧ StN S' (z + 1 + 6 * c) (z + 2 + 6 * c) ∧ gI S' 134 (z + 1 + 6 * c) 0 = 0) → Q S') : wp_X9_init o a1 S Q := by
  subst hsz
  refine ⟨by omega, by omega, ?_⟩
  rintro _ rfl _ rfl
  have k2 : kd (nw S 24 8) o = 10 := by rw [kd_nw, if_neg (by omega)]; exact ho
  refine ⟨k2, ?_⟩
  rintro _ rfl
  have g3 : Gw S (sR (nw S 24 8) 145 o 0 (some (sz S))) o (sz S + 1) := Gw_sR (Or.inl rfl) (Gw_nw (Gw_rf hz))
  have a3 : AR (sR (nw S 24 8) 145 o 0 (some (sz S))) 145 o (sz S) 24 8 := ⟨by rw [gR_sR, if_pos ⟨rfl, rfl, rfl⟩], by rw [kd_sR, kd_nw, if_pos rfl], by rw [ln_sR, ln_nw, if_pos rfl]⟩
  have i3 : ∀ f i, gI (sR (nw S 24 8) 145 o 0 (some (sz S))) f o i = gI S f o i := fun f i => by rw [gI_sR, gI_nw, if_neg (by omega)]
  clear k2
  generalize sR (nw S 24 8) 145 o 0 (some (sz S)) = S3 at *
  refine Lp_of (fun n y => ∃ i S1 bc bs, i ≤ 8 ∧ n = 8 - i ∧ y = (nI i, S1, bc, bs) ∧ (bc + 6 * i = 48 ∧ bs + 59 * i = 472) ∧ Gw S S1 o (sz S + 1 + 6 * i) ∧ AR S1 145 o (sz S) 24 8 ∧ (∀ f i, gI S1 f o i = gI S f o i) ∧ ∀ c, c < i → gR S1 0 (sz S) c = some (sz S + 1 + 6 * c) ∧ kd S1 (sz S + 1 + 6 * c) = 9 ∧ StN S1 (sz S + 1 + 6 * c) (sz S + 2 + 6 * c) ∧ gI S1 134 (sz S + 1 + 6 * c) 0 = 0) (fun n y hy K hK => ?_) (n := 8) (x := (nI 0, S3, 49 - 1, 480 - 8)) ⟨0, S3, _, _, by omega, rfl, rfl, by omega, g3, a3, i3, fun c hc => absurd hc (Nat.not_lt_zero c)⟩
  obtain ⟨i, S1, bc, bs, hi, rfl, rfl, ⟨b1, b2⟩, g1, ⟨q1, q2, q3⟩, i1, hp⟩ := hy
  dsimp only
  refine ⟨fun hc => ?_, fun hc => ?_⟩
  · rw [li_8, nI_leI (by omega) (by omega)] at hc
    obtain rfl : i = 8 := by omega
    exact hQ _ g1 ⟨q1, q2, q3⟩ i1 hp
  · rw [li_8, nI_leI (by omega) (by omega)] at hc
    have ko : kd S1 o = 10 := ((g1.1 o hlt).1).trans ho
    have s1 : sz S1 = sz S + 1 + 6 * i := g1.2.2.1.1
    refine ⟨ko, by omega, by omega, ?_⟩
    rintro _ rfl _ rfl
    refine ⟨by omega, by omega, _, q1, ?_⟩
    have g5 : Gw S1 (nw S1 9 0) (sz S1) (sz S1 + 1) := Gw_nw (Gw_rf (fun a ha => g1.2.2.2 a (by omega)))
    refine i_step (S := nw S1 9 0) (o := sz S1) (z := sz S1 + 1) (by rw [kd_nw, if_pos rfl]) (by rw [sz_nw]; omega) rfl (fun a ha => g5.2.2.2 a ha) (fun S7 g7 hS h134 => ?_)
    have g8 : Gw S1 S7 (sz S1) (sz S1 + 6) := Gw_tr g5 g7 (Or.inl rfl)
    have F : ∀ a, a < sz S1 → (kd S7 a = kd S1 a ∧ ln S7 a = ln S1 a) ∧ ∀ f i, gI S7 f a i = gI S1 f a i ∧ gR S7 f a i = gR S1 f a i := fun a ha => ⟨g8.1 a ha, g8.2.1 a ha (by omega)⟩
    have k9 : kd S7 (sz S1) = 9 := by
      rw [(g7.1 (sz S1) (by rw [sz_nw]; omega)).1, kd_nw, if_pos rfl]
    refine ⟨?_, k9, ?_, ?_⟩
    · rw [(F _ (by omega)).1.1]
      exact q2
    · rw [(F _ (by omega)).1.2, q3]
      exact vp_li (by omega) (by omega)
    · rintro _ rfl _ rfl
      rw [nI_clamp (by omega), nI_1]
      refine hK _ (8 - (i + 1)) (by omega) ⟨i + 1, _, _, _, by omega, rfl, rfl, by omega, ?_, ⟨?_, ?_, ?_⟩, fun f j => ?_, fun c hc' => ?_⟩
      · rw [show sz S + 1 + 6 * (i + 1) = sz S1 + 6 by omega]
        exact Gw_sR (Or.inr (Nat.le_refl _)) (Gw_tr g1 g8 (Or.inr (by omega)))
      · rw [gR_sR, if_neg (by omega), ((F o (by omega)).2 145 0).2]
        exact q1
      · rw [kd_sR, (F _ (by omega)).1.1]
        exact q2
      · rw [ln_sR, (F _ (by omega)).1.2]
        exact q3
      · rw [gI_sR, ((F o (by omega)).2 f j).1]
        exact i1 f j
      · by_cases e : c = i
        · subst e
          rw [show sz S + 2 + 6 * c = sz S1 + 1 by omega, ← s1]
          refine ⟨?_, k9, StN_sR hS, ?_⟩
          · rw [gR_sR, if_pos ⟨rfl, rfl, rfl⟩]
          · rw [gI_sR, h134, gI_nw, if_pos rfl]
        · obtain ⟨p1, p2, p3, p4⟩ := hp c (by omega)
          refine ⟨?_, ?_, StN_sR (StN_F F (by omega) (by omega) p3), ?_⟩
          · rw [gR_sR, if_neg (fun w => e w.2.2), ((F _ (by omega)).2 0 c).2]
            exact p1
          · rw [kd_sR, (F _ (by omega)).1.1]
            exact p2
          · rw [gI_sR, ((F _ (by omega)).2 134 0).1]
            exact p4
end INIT2
