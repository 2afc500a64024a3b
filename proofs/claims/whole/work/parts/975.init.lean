/-! ===== the constructors ===== -/
section INIT
variable {S S' : Hp} {o z : Nat}
/-- cells below the end stay, but for o; the end is z -/
def Gw (S S' : Hp) (o z : Nat) : Prop := (∀ a, a < sz S → kd S' a = kd S a ∧ ln S' a = ln S a) ∧ (∀ a, a < sz S → a ≠ o → ∀ f i, gI S' f a i = gI S f a i ∧ gR S' f a i = gR S f a i) ∧ (sz S' = z ∧ sz S ≤ z) ∧ ∀ a, z ≤ a → kd S' a = 0
theorem Gw_rf (hz : ∀ a, sz S ≤ a → kd S a = 0) : Gw S S o (sz S) := ⟨fun _ _ => ⟨rfl, rfl⟩, fun _ _ _ _ _ => ⟨rfl, rfl⟩, ⟨rfl, Nat.le_refl _⟩, hz⟩
theorem Gw_nw {k n : Nat} (h : Gw S S' o z) : Gw S (nw S' k n) o (z + 1) := by
  obtain ⟨h1, h2, ⟨h3, h4⟩, h5⟩ := h
  refine ⟨fun a ha => ?_, fun a ha hne f i => ?_, ⟨by rw [sz_nw, h3], by omega⟩, fun a ha => ?_⟩
  · rw [kd_nw, ln_nw, h3, if_neg (by omega), if_neg (by omega)]
    exact h1 a ha
  · rw [gI_nw, gR_nw, h3, if_neg (by omega), if_neg (by omega)]
    exact h2 a ha hne f i
  · rw [kd_nw, h3, if_neg (by omega)]
    exact h5 a (by omega)
theorem Gw_sI {f a i : Nat} {v : Int32} (ha : a = o ∨ sz S ≤ a) (h : Gw S S' o z) : Gw S (sI S' f a i v) o z := by
  obtain ⟨h1, h2, h3, h5⟩ := h
  refine ⟨h1, fun b hb hne f' i' => ⟨?_, (h2 b hb hne f' i').2⟩, h3, h5⟩
  rw [gI_sI, if_neg (by omega)]
  exact (h2 b hb hne f' i').1
theorem Gw_sR {f a i : Nat} {v : Option Nat} (ha : a = o ∨ sz S ≤ a) (h : Gw S S' o z) : Gw S (sR S' f a i v) o z := by
  obtain ⟨h1, h2, h3, h5⟩ := h
  refine ⟨h1, fun b hb hne f' i' => ⟨(h2 b hb hne f' i').1, ?_⟩, h3, h5⟩
  rw [gR_sR, if_neg (by omega)]
  exact (h2 b hb hne f' i').2
theorem i_text {Q : Hp → Prop} (ho : kd S o = 11) (hlt : o < sz S) (hsz : sz S = z) (hz : ∀ a, sz S ≤ a → kd S a = 0) (hQ : ∀ S', Gw S S' o (z + 1) → AR S' 161 o z 20 200 → gI S' 162 o 0 = 0 → Q S') : wp_X10_init o S Q := by
  subst hsz
  refine ⟨by omega, by omega, ?_⟩
  rintro _ rfl _ rfl
  have k1 : kd (nw S 20 200) o = 11 := by rw [kd_nw, if_neg (by omega)]; exact ho
  refine ⟨k1, ?_⟩
  rintro _ rfl
  refine ⟨k1, ?_⟩
  rintro _ rfl
  refine hQ _ (Gw_sI (Or.inl rfl) (Gw_sR (Or.inl rfl) (Gw_nw (Gw_rf hz)))) ⟨?_, ?_, ?_⟩ ?_
  · rw [gR_sI, gR_sR, if_pos ⟨rfl, rfl, rfl⟩]
  · rw [kd_sI, kd_sR, kd_nw, if_pos rfl]
  · rw [ln_sI, ln_sR, ln_nw, if_pos rfl]
  · rw [gI_sI, if_pos ⟨rfl, rfl, rfl⟩]
/-- what a new line has -/
def LnN (S : Hp) (o z : Nat) : Prop := AR S 33 o z 23 6 ∧ kd S (z + 1) = 6 ∧ (gI S 34 o 0 = 0 ∧ gI S 35 o 0 = 4 ∧ gI S 36 o 0 = 20) ∧ ∀ p, p < 6 → gR S 0 z p = some (z + 1)
theorem i_line {Q : Hp → Prop} (ho : kd S o = 3) (hlt : o < sz S) (hsz : sz S = z) (hz : ∀ a, sz S ≤ a → kd S a = 0) (hQ : ∀ S', Gw S S' o (z + 3) → LnN S' o z → Q S') : wp_X2_init o S Q := by
  subst hsz
  refine ⟨by omega, by omega, ?_⟩
  rintro _ rfl _ rfl
  have k1 : kd (nw S 23 6) o = 3 := by rw [kd_nw, if_neg (by omega)]; exact ho
  refine ⟨k1, ?_⟩
  rintro _ rfl
  refine ⟨by omega, by omega, ?_⟩
  rintro _ rfl _ rfl
  refine ⟨by omega, by omega, ?_⟩
  rintro _ rfl _ rfl
  have s3 : sz (sR (nw S 23 6) 33 o 0 (some (sz S))) = sz S + 1 := rfl
  have s5 : sz (nw (sR (nw S 23 6) 33 o 0 (some (sz S))) 6 0) = sz S + 2 := rfl
  rw [s3, s5]
  have k6 : kd (nw (nw (sR (nw S 23 6) 33 o 0 (some (sz S))) 6 0) 20 0) (sz S + 1) = 6 := by rw [kd_nw, s5, if_neg (by omega), kd_nw, s3, if_pos rfl]
  have g7 : Gw S (nw (nw (sR (nw S 23 6) 33 o 0 (some (sz S))) 6 0) 20 0) o (sz S + 3) := Gw_nw (Gw_nw (Gw_sR (Or.inl rfl) (Gw_nw (Gw_rf hz))))
  have r7 : gR (nw (nw (sR (nw S 23 6) 33 o 0 (some (sz S))) 6 0) 20 0) 33 o 0 = some (sz S) := by rw [gR_nw, s5, if_neg (by omega), gR_nw, s3, if_neg (by omega), gR_sR, if_pos ⟨rfl, rfl, rfl⟩]
  have kz : kd (nw (nw (sR (nw S 23 6) 33 o 0 (some (sz S))) 6 0) 20 0) (sz S) = 23 := by rw [kd_nw, s5, if_neg (by omega), kd_nw, s3, if_neg (by omega), kd_sR, kd_nw, if_pos rfl]
  have lz : ln (nw (nw (sR (nw S 23 6) 33 o 0 (some (sz S))) 6 0) 20 0) (sz S) = 6 := by rw [ln_nw, s5, if_neg (by omega), ln_nw, s3, if_neg (by omega), ln_sR, ln_nw, if_pos rfl]
  generalize nw (nw (sR (nw S 23 6) 33 o 0 (some (sz S))) 6 0) 20 0 = S7 at *
  refine ⟨k6, ?_⟩
  rintro _ rfl
  refine ⟨k6, ?_⟩
  rintro _ rfl
  refine ⟨k6, ?_⟩
  rintro _ rfl
  have g9 : Gw S (sI (sI (sR S7 81 (sz S + 1) 0 (some (sz S + 2))) 82 (sz S + 1) 0 1) 83 (sz S + 1) 0 1) o (sz S + 3) := Gw_sI (Or.inr (by omega)) (Gw_sI (Or.inr (by omega)) (Gw_sR (Or.inr (by omega)) g7))
  have r9 : gR (sI (sI (sR S7 81 (sz S + 1) 0 (some (sz S + 2))) 82 (sz S + 1) 0 1) 83 (sz S + 1) 0 1) 33 o 0 = some (sz S) := by rw [gR_sI, gR_sI, gR_sR, if_neg (by omega)]; exact r7
  have k9 : kd (sI (sI (sR S7 81 (sz S + 1) 0 (some (sz S + 2))) 82 (sz S + 1) 0 1) 83 (sz S + 1) 0 1) (sz S + 1) = 6 ∧ kd (sI (sI (sR S7 81 (sz S + 1) 0 (some (sz S + 2))) 82 (sz S + 1) 0 1) 83 (sz S + 1) 0 1) (sz S) = 23 ∧ ln (sI (sI (sR S7 81 (sz S + 1) 0 (some (sz S + 2))) 82 (sz S + 1) 0 1) 83 (sz S + 1) 0 1) (sz S) = 6 := ⟨k6, kz, lz⟩
  generalize sI (sI (sR S7 81 (sz S + 1) 0 (some (sz S + 2))) 82 (sz S + 1) 0 1) 83 (sz S + 1) 0 1 = S9 at *
  refine Lp_of (fun n y => ∃ i S1, i ≤ 6 ∧ n = 6 - i ∧ y = (nI i, S1, 3 - 1 - 1 - 1, 9 - 6 - 3 - 0) ∧ Gw S S1 o (sz S + 3) ∧ gR S1 33 o 0 = some (sz S) ∧ (kd S1 (sz S + 1) = 6 ∧ kd S1 (sz S) = 23 ∧ ln S1 (sz S) = 6) ∧ ∀ p, p < i → gR S1 0 (sz S) p = some (sz S + 1)) (fun n y hy K hK => ?_) (n := 6) (x := (nI 0, S9, 3 - 1 - 1 - 1, 9 - 6 - 3 - 0)) ⟨0, S9, by omega, rfl, rfl, g9, r9, k9, fun p hp => absurd hp (Nat.not_lt_zero p)⟩
  obtain ⟨i, S1, hi, rfl, rfl, g1, r1, ⟨q1, q2, q3⟩, hp⟩ := hy
  dsimp only
  have ko : kd S1 o = 3 := ((g1.1 o hlt).1).trans ho
  refine ⟨fun hc => ⟨ko, ?_⟩, fun hc => ⟨ko, _, r1, q2, q1, ?_, ?_⟩⟩
  · rw [li_6, nI_leI (by omega) (by omega)] at hc
    rintro _ rfl
    refine ⟨ko, ?_⟩
    rintro _ rfl
    refine ⟨ko, ?_⟩
    rintro _ rfl
    refine hQ _ (Gw_sI (Or.inl rfl) (Gw_sI (Or.inl rfl) (Gw_sI (Or.inl rfl) g1))) ⟨⟨r1, q2, q3⟩, q1, ⟨?_, ?_, ?_⟩, fun p hp' => hp p (by omega)⟩
    · rw [gI_sI, if_neg (by omega), gI_sI, if_neg (by omega), gI_sI, if_pos ⟨rfl, rfl, rfl⟩]
    · rw [gI_sI, if_neg (by omega), gI_sI, if_pos ⟨rfl, rfl, rfl⟩]
    · rw [gI_sI, if_pos ⟨rfl, rfl, rfl⟩]
  · rw [li_6, nI_leI (by omega) (by omega)] at hc
    rw [q3]
    exact vp_li (by omega) (by omega)
  · rw [li_6, nI_leI (by omega) (by omega)] at hc
    rintro _ rfl _ rfl
    rw [nI_clamp (by omega), nI_1]
    refine hK _ (6 - (i + 1)) (by omega) ⟨i + 1, _, by omega, rfl, rfl, Gw_sR (Or.inr (Nat.le_refl _)) g1, ?_, ⟨q1, q2, q3⟩, fun p hp' => ?_⟩
    · rw [gR_sR, if_neg (by omega)]
      exact r1
    · rw [gR_sR]
      by_cases e : p = i
      · rw [if_pos ⟨rfl, rfl, e⟩]
      · rw [if_neg (fun w => e w.2.2)]
        exact hp p (by omega)
end INIT
