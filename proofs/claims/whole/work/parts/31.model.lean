/-! ===== bits of small numbers ===== -/
theorem s_l31 : ∀ n, n < 32 → ((nI n &&& 31).toBitVec.smod 32).toNat = n := by decide +kernel
theorem bit_nI {n p : Nat} (hn : n < 2 ^ 31) (hp : p < 32) : ((nI n >>> (nI p &&& 31)) &&& 1) = nI (n / 2 ^ p % 2) := by
  rw [pk_shrN hn _ p (s_l31 p hp)]
  have h : n / 2 ^ p < 2 ^ 32 := Nat.lt_of_le_of_lt (Nat.div_le_self _ _) (by omega)
  exact pk_andN (m := 1) h 1 (by decide)
theorem shl_nI {p : Nat} (hp : p < 31) : (1 : Int32) <<< (nI p &&& 31) = nI (2 ^ p) := by
  have h : 2 ^ p < 2 ^ 32 := Nat.pow_lt_pow_right (by omega) (by omega)
  have e := pk_shlN (n := 1) (nI p &&& 31) p (s_l31 p (by omega)) (by rw [Nat.one_mul]; exact h)
  rw [Nat.one_mul] at e
  exact e
theorem or_nI (a b : Nat) : nI a ||| nI b = nI (a ||| b) := by
  apply Int32.toBitVec_inj.mp
  apply BitVec.eq_of_toNat_eq
  show (a % 2 ^ 32) ||| (b % 2 ^ 32) = (a ||| b) % 2 ^ 32
  rw [Nat.or_mod_two_pow]
/-! ===== what a row says ===== -/
def stN (l k : Nat) : Nat := (l + k - 1) / k
def sP (q : Nat → Nat) (p : Nat) : Nat := stN (q (3 + 15 * p)) (q (4 + 15 * p))
def lenS (q : Nat → Nat) (s : Nat) : Nat → Nat
  | 0 => 0
  | p + 1 => lenS q s p + (if s / 2 ^ p % 2 = 1 then sP q p else 0)
def costS (q : Nat → Nat) : Nat → Nat
  | 0 => 0
  | p + 1 => costS q p + q (5 + 15 * p) * q (4 + 15 * p)
def V (q : Nat → Nat) : Prop := (1 ≤ q 0 ∧ q 0 ≤ 8) ∧ (1 ≤ q 1 ∧ q 1 ≤ 40) ∧ q 2 ≤ 6 ∧ (∀ p, p < q 2 → (1 ≤ q (3 + 15 * p) ∧ q (3 + 15 * p) ≤ 12) ∧ (1 ≤ q (4 + 15 * p) ∧ q (4 + 15 * p) ≤ 8) ∧ (1 ≤ q (5 + 15 * p) ∧ q (5 + 15 * p) ≤ 9) ∧ ∀ i, i < q (3 + 15 * p) → q (6 + 15 * p + i) ≤ 25) ∧ (q 93 ≤ 6 ∧ q 94 ≤ 8 ∧ q 95 ≤ 40) ∧ (∀ p, p < q 93 → (1 ≤ q (96 + 3 * p) ∧ q (96 + 3 * p) ≤ 12) ∧ (1 ≤ q (97 + 3 * p) ∧ q (97 + 3 * p) ≤ q 94) ∧ q (98 + 3 * p) + stN (q (96 + 3 * p)) (q (97 + 3 * p)) ≤ q 95) ∧ (∀ t, t < 8 → q (114 + t) ≤ 1 ∧ q (122 + t) ≤ q 95) ∧ (∀ t, t < 8 → ∀ i, i < 40 → q (130 + 40 * t + i) ≤ 28 ∧ q (450 + 40 * t + i) ≤ 28)
theorem stN_le {l k : Nat} (hl : l ≤ 12) (hk : 1 ≤ k) : stN l k ≤ 12 := str_lt hl hk
theorem sP_le {q : Nat → Nat} (hV : V q) {p : Nat} (hp : p < q 2) : sP q p ≤ 12 := by
  have h := hV.2.2.2.1 p hp
  exact stN_le h.1.2 h.2.1.1
theorem lenS_le {q : Nat → Nat} (hV : V q) (s : Nat) : ∀ p, p ≤ q 2 → lenS q s p ≤ 12 * p
  | 0, _ => Nat.le_refl 0
  | p + 1, hp => by
    have h1 := lenS_le hV s p (by omega)
    have h2 := sP_le hV (p := p) (by omega)
    unfold lenS
    split <;> omega
theorem costS_le {q : Nat → Nat} (hV : V q) : ∀ p, p ≤ q 2 → costS q p ≤ 72 * p
  | 0, _ => Nat.le_refl 0
  | p + 1, hp => by
    have h1 := costS_le hV p (by omega)
    have h2 := hV.2.2.2.1 p (by omega)
    have h3 : q (5 + 15 * p) * q (4 + 15 * p) ≤ 9 * 8 := Nat.mul_le_mul h2.2.2.1.2 h2.2.1.2
    unfold costS
    omega
/-! ===== the reference's methods that only read ===== -/
section MREAD
variable {S : Hp} {mo : Nat} {q : Nat → Nat}
/-- a read of the row -/
theorem m_rd {T : Nat → Prop} {E : Int32} (k : Nat) (hM : MK S mo) (hE : E = nI k) (hk : k < 770) (h : T (mo + 1)) : kd S mo = 13 ∧ ∃ b, gR S 193 mo 0 = some b ∧ kd S b = 20 ∧ vp_in E (ln S b) ∧ T b := by
  obtain ⟨k0, ⟨r1, k1, l1⟩, -⟩ := hM
  exact ⟨k0, _, r1, k1, by rw [l1, hE]; exact vp_li (by omega) (by omega), h⟩
theorem m_rv {E : Int32} (k : Nat) (hR : MR S mo q) (hE : E = nI k) (hk : k < 770) : gI S 0 (mo + 1) E.toNatClampNeg = nI (q k) := by
  rw [hE, nI_clamp (by omega)]
  exact hR k hk
theorem m_lengthOf {Q : Int32 → Prop} (hM : MK S mo) (hR : MR S mo q) (hV : V q) (s : Nat) (hs : s < 2 ^ 31) (h : Q (nI (lenS q s (q 2)))) : wp_X12_lengthOf mo (nI s) S Q := by
  have h2 := hV.2.2.1
  refine Lp_for (fun i => (nI (lenS q s i), nI i)) (q 2) (fun i hi K hK => ?_) (fun K => ?_) (i := 0) (by omega)
  · have hp := hV.2.2.2.1 i hi
    refine m_rd 2 hM li_2 (by omega) ⟨fun hc => ?_, fun _ => ?_⟩
    · rw [m_rv 2 hR li_2 (by omega), nI_leI (by omega) (by omega)] at hc
      omega
    · have hb := Nat.mod_two_eq_zero_or_one (s / 2 ^ i)
      refine ⟨fun hc => ?_, fun hc => ⟨hM.1, m_stripesOf hM hR (by omega) hp.1.2 hp.2.1.1 hp.2.1.2 ?_⟩⟩
      · rw [bit_nI hs (by omega), li_1, nI_ne (by omega) (by omega)] at hc
        rintro _ rfl _ rfl
        rw [li_0, nI_add, nI_1]
        have e : lenS q s (i + 1) = lenS q s i + 0 := by rw [lenS, if_neg hc]
        rw [← e]
        exact hK
      · rw [bit_nI hs (by omega), li_1, nI_eq (by omega) (by omega)] at hc
        rintro _ rfl _ rfl
        rw [nI_add, nI_1]
        have e : lenS q s (i + 1) = lenS q s i + sP q i := by rw [lenS, if_pos hc]
        rw [e] at hK
        exact hK
  · refine m_rd 2 hM li_2 (by omega) ⟨fun _ => h, fun hc => ?_⟩
    rw [m_rv 2 hR li_2 (by omega)] at hc
    exact absurd (nI_le (Nat.le_refl _) (by omega)) hc
theorem m_weights {Q : Int32 → Prop} (hM : MK S mo) (hR : MR S mo q) (hV : V q) (h : Q (nI (costS q (q 2)))) : wp_X12_weights mo S Q := by
  have h2 := hV.2.2.1
  refine Lp_for (fun i => (nI (costS q i), nI i)) (q 2) (fun i hi K hK => ?_) (fun K => ?_) (i := 0) (by omega)
  · have e2 : (3 : Int32) + 15 * nI i + 2 = nI (5 + 15 * i) := by
      rw [li_3, li_15, li_2, pk_mul, nI_add, nI_add]
      congr 1
      omega
    have e1 : (3 : Int32) + 15 * nI i + 1 = nI (4 + 15 * i) := by
      rw [li_3, li_15, li_1, pk_mul, nI_add, nI_add]
      congr 1
      omega
    obtain ⟨k0, ⟨r1, k1, l1⟩, -⟩ := id hM
    refine m_rd 2 hM li_2 (by omega) ⟨fun hc => ?_, fun _ => ?_⟩
    · rw [m_rv 2 hR li_2 (by omega), nI_leI (by omega) (by omega)] at hc
      omega
    · refine ⟨k0, _, r1, k1, by rw [l1, e2]; exact vp_li (by omega) (by omega), k0, _, r1, k1, by rw [l1, e1]; exact vp_li (by omega) (by omega), ?_⟩
      rintro _ rfl _ rfl
      rw [m_rv _ hR e2 (by omega), m_rv _ hR e1 (by omega), pk_mul, nI_add, nI_1]
      exact hK
  · refine m_rd 2 hM li_2 (by omega) ⟨fun _ => h, fun hc => ?_⟩
    rw [m_rv 2 hR li_2 (by omega)] at hc
    exact absurd (nI_le (Nat.le_refl _) (by omega)) hc
end MREAD
