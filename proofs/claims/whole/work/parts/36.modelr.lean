def bb (b : Bool) : Int32 := if b = true then 1 else 0
def ndLe (q : Nat → Nat) : Nat → Bool
  | 0 => true
  | i + 1 => ndLe q i && decide (q (4 + 15 * i) ≤ q 0)
def fitB (q : Nat → Nat) : Bool := decide (lenS q 63 (q 2) ≤ q 1) && ndLe q (q 2)
def lostS (q : Nat → Nat) : Nat → Nat
  | 0 => 0
  | t + 1 => lostS q t + q (114 + t)
def opS (q : Nat → Nat) (m : Nat) : Nat → Nat
  | 0 => 0
  | p + 1 => opS q m p ||| (if q (97 + 3 * p) ≤ m then 2 ^ p else 0)
def wS (q : Nat → Nat) (s : Nat) : Nat → Nat
  | 0 => 0
  | p + 1 => wS q s p + (if s / 2 ^ p % 2 = 1 then q (5 + 15 * p) else 0)
def lsB (q : Nat → Nat) (r : Nat) : Nat → Nat × Nat
  | 0 => (0, 0)
  | s + 1 => if lenS q s (q 2) ≤ r ∧ (lsB q r s).2 ≤ wS q s (q 2) then (s, wS q s (q 2)) else lsB q r s
def oOpened (q : Nat → Nat) (m : Int32) : Int32 := if okB m 0 8 then nI (opS q (tn m) (q 93)) else -3
def oLesser (q : Nat → Nat) (r : Int32) : Int32 := if okB r 0 40 then nI (lsB q (tn r) (2 ^ q 2)).1 else -3
theorem bb01 (b : Bool) : bb b = 0 ∨ bb b = 1 := by
  cases b
  · exact Or.inl rfl
  · exact Or.inr rfl
theorem lostS_le {q : Nat → Nat} (hV : V q) : ∀ t, t ≤ 8 → lostS q t ≤ t
  | 0, _ => Nat.le_refl 0
  | t + 1, h => by
    have h1 := lostS_le hV t (by omega)
    have h2 := hV.2.2.2.2.2.2.1 t (by omega)
    unfold lostS
    omega
theorem opS_lt {q : Nat → Nat} {m : Nat} : ∀ p, opS q m p < 2 ^ p
  | 0 => Nat.one_pos
  | p + 1 => by
    have h1 := opS_lt (q := q) (m := m) p
    have h3 : 2 ^ p < 2 ^ (p + 1) := Nat.pow_lt_pow_right (by omega) (by omega)
    unfold opS
    split
    · exact Nat.or_lt_two_pow (Nat.lt_trans h1 h3) h3
    · rw [Nat.or_zero]
      exact Nat.lt_trans h1 h3
theorem wS_le {q : Nat → Nat} (hV : V q) (s : Nat) : ∀ p, p ≤ q 2 → wS q s p ≤ 9 * p
  | 0, _ => Nat.le_refl 0
  | p + 1, hp => by
    have h1 := wS_le hV s p (by omega)
    have h2 := (hV.2.2.2.1 p (by omega)).2.2.1.2
    unfold wS
    split <;> omega
theorem lsB_le {q : Nat → Nat} (hV : V q) {r : Nat} : ∀ s, (lsB q r s).1 ≤ s ∧ (lsB q r s).2 ≤ 54
  | 0 => ⟨Nat.le_refl 0, Nat.zero_le _⟩
  | s + 1 => by
    have h1 := lsB_le hV (r := r) s
    have h2 := wS_le hV s (q 2) (Nat.le_refl _)
    have h3 := hV.2.2.1
    unfold lsB
    split
    · exact ⟨by dsimp only; omega, by dsimp only; omega⟩
    · exact ⟨by omega, h1.2⟩
section MOPS4
variable {S : Hp} {mo : Nat} {σ : Sg} {q : Nat → Nat}
theorem m_isFit {Q : Int32 → Prop} (hM : MK S mo) (hR : MR S mo q) (hV : V q) (h : Q (bb (fitB q))) : wp_X12_isFit mo S Q := by
  have h2 := hV.2.2.1
  have h0 := hV.1
  have h1 := hV.2.1
  obtain ⟨k0, ⟨r1, k1, l1⟩, -⟩ := id hM
  have hl := lenS_le hV 63 (q 2) (Nat.le_refl _)
  have loop : ∀ c : Bool, c = decide (lenS q 63 (q 2) ≤ q 1) → wp_X12_isFit_23 Q mo (bb c) (nI 0) S := by
    intro c hc
    have key := Lp_for (B := fun K y => wb_X12_isFit_23 (fun w0 w1 => K (w0, w1)) Q mo y.1 y.2 S) (fun i => (bb (c && ndLe q i), nI i)) (q 2) (fun i hi K hK => ?_) (fun K => ?_) (i := 0) (by omega)
    · rw [show (c && ndLe q 0) = c from Bool.and_true c] at key
      exact key
    · have hp := hV.2.2.2.1 i hi
      refine m_rd 2 hM li_2 (by omega) ⟨fun hc => ?_, fun _ => ⟨fun hz => ?_, fun hz => ?_⟩⟩
      · rw [m_rv 2 hR li_2 (by omega)] at hc
        dsimp only at hc
        rw [nI_leI (by omega) (by omega)] at hc
        omega
      · have hb : (c && ndLe q i) = false := by
          cases hb : (c && ndLe q i)
          · rfl
          · rw [show ((bb (c && ndLe q i), nI i) : Int32 × Int32).1 = bb (c && ndLe q i) from rfl, hb] at hz
            exact absurd hz (by decide)
        rintro _ rfl
        dsimp only
        rw [nI_1]
        have e : (c && ndLe q (i + 1)) = false := by
          show (c && (ndLe q i && decide (q (4 + 15 * i) ≤ q 0))) = false
          rw [← Bool.and_assoc, hb]
          rfl
        rw [e] at hK
        exact hK
      · have hb : (c && ndLe q i) = true := by
          cases hb : (c && ndLe q i)
          · rw [show ((bb (c && ndLe q i), nI i) : Int32 × Int32).1 = bb (c && ndLe q i) from rfl, hb] at hz
            exact absurd rfl hz
          · rfl
        have e1 : (3 : Int32) + 15 * nI i + 1 = nI (4 + 15 * i) := by rw [li_1, ix_at i 1 0, show 3 + 15 * i + 1 = 4 + 15 * i by omega]
        refine ⟨k0, _, r1, k1, by dsimp only; rw [l1, e1]; exact vp_li (by omega) (by omega), ?_⟩
        refine m_rd 0 hM li_0 (by omega) ?_
        dsimp only
        rw [m_rv 0 hR li_0 (by omega), m_rv _ hR e1 (by omega), nI_ltI (by omega) (by omega)]
        have e : (c && ndLe q (i + 1)) = decide (q (4 + 15 * i) ≤ q 0) := by
          show (c && (ndLe q i && decide (q (4 + 15 * i) ≤ q 0))) = _
          rw [← Bool.and_assoc, hb, Bool.true_and]
        refine ⟨fun hc => ?_, fun hc => ?_⟩
        · rw [e, decide_eq_false (by omega)] at hK
          rintro _ rfl
          rw [nI_1]
          exact hK
        · rw [e, decide_eq_true (by omega)] at hK
          rintro _ rfl
          rw [nI_1]
          exact hK
    · refine m_rd 2 hM li_2 (by omega) ⟨fun _ => ⟨bb01 _, ?_⟩, fun hc => ?_⟩
      · dsimp only
        rw [hc]
        exact h
      · rw [m_rv 2 hR li_2 (by omega)] at hc
        exact absurd (nI_le (Nat.le_refl _) (by omega)) hc
  refine ⟨k0, ?_⟩
  rw [li_63]
  refine m_lengthOf hM hR hV 63 (by omega) ?_
  refine m_rd 1 hM li_1 (by omega) ?_
  rw [m_rv 1 hR li_1 (by omega), nI_ltI (by omega) (by omega)]
  refine ⟨fun hc => ?_, fun hc => ?_⟩
  · exact loop false (decide_eq_false (by omega)).symm
  · exact loop true (decide_eq_true (by omega)).symm
theorem m_lostMany {Q : Int32 → Prop} (hM : MK S mo) (hR : MR S mo q) (hV : V q) (h : Q (nI (lostS q (q 94)))) : wp_X12_lostMany mo S Q := by
  have h2 := hV.2.2.2.2.1.2.1
  refine Lp_for (fun i => (nI (lostS q i), nI i)) (q 94) (fun i hi K hK => ?_) (fun K => ?_) (i := 0) (by omega)
  · have e1 : (114 : Int32) + nI i = nI (114 + i) := by rw [li_114, nI_add]
    refine m_rd 94 hM li_94 (by omega) ⟨fun hc => ?_, fun _ => ?_⟩
    · rw [m_rv 94 hR li_94 (by omega)] at hc
      dsimp only at hc
      rw [nI_leI (by omega) (by omega)] at hc
      omega
    · refine m_rd _ hM e1 (by omega) ?_
      rintro _ rfl _ rfl
      dsimp only
      rw [m_rv _ hR e1 (by omega), nI_add, nI_1]
      exact hK
  · refine m_rd 94 hM li_94 (by omega) ⟨fun _ => h, fun hc => ?_⟩
    rw [m_rv 94 hR li_94 (by omega)] at hc
    exact absurd (nI_le (Nat.le_refl _) (by omega)) hc
theorem m_packedNeed {p : Nat} {Q : Int32 → Prop} (hM : MK S mo) (hR : MR S mo q) (hp : p < 6) (h : Q (nI (q (97 + 3 * p)))) : wp_X12_packedNeed mo (nI p) S Q := by
  have e : (96 : Int32) + 3 * nI p + 1 = nI (97 + 3 * p) := by
    rw [li_96, li_3, li_1, pk_mul, nI_add, nI_add]
    congr 1
    omega
  refine m_rd _ hM e (by omega) ?_
  rw [m_rv _ hR e (by omega)]
  exact h
theorem m_packedFirst {p : Nat} {Q : Int32 → Prop} (hM : MK S mo) (hR : MR S mo q) (hp : p < 6) (h : Q (nI (q (98 + 3 * p)))) : wp_X12_packedFirst mo (nI p) S Q := by
  have e : (96 : Int32) + 3 * nI p + 2 = nI (98 + 3 * p) := by
    rw [li_96, li_3, li_2, pk_mul, nI_add, nI_add]
    congr 1
    omega
  refine m_rd _ hM e (by omega) ?_
  rw [m_rv _ hR e (by omega)]
  exact h
def qS (q : Nat → Nat) (p : Nat) : Nat := stN (q (96 + 3 * p)) (q (97 + 3 * p))
theorem m_packedStripes {p : Nat} {Q : Int32 → Prop} (hM : MK S mo) (hR : MR S mo q) (hV : V q) (hp : p < q 93) (h : Q (nI (qS q p))) : wp_X12_packedStripes mo (nI p) S Q := by
  have hv := hV.2.2.2.2.2.1 p hp
  have h6 := hV.2.2.2.2.1
  have e : (96 : Int32) + 3 * nI p = nI (96 + 3 * p) := by rw [li_96, li_3, pk_mul, nI_add]
  refine m_rd _ hM e (by omega) ⟨hM.1, m_packedNeed hM hR (by omega) ?_⟩
  rw [m_rv _ hR e (by omega)]
  exact m_stripes (by omega) hv.2.1.1 (by omega) h
theorem M_opened {Q : Int32 → Prop} {x : Int32} (hM : MK S mo) (hR : MR S mo q) (hV : V q) (h : Q (oOpened q x)) : wp_X12_opened mo x S Q := by
  have h6 := hV.2.2.2.2.1
  unfold oOpened at h
  refine m_inB (a := 0) (b := 8) rfl rfl (by omega) (fun m _ hm hx => ⟨fun _ => ?_, fun w => absurd w (by decide)⟩) (fun hn => ⟨fun w => absurd rfl w, fun _ => ?_⟩)
  · subst hx
    rw [if_pos ((okB_nI (by omega)).mpr ⟨by omega, hm⟩), tn_nI (by omega)] at h
    refine Lp_for (fun i => (nI (opS q m i), nI i)) (q 93) (fun i hi K hK => ?_) (fun K => ?_) (i := 0) (by omega)
    · have hv := hV.2.2.2.2.2.1 i hi
      refine m_rd 93 hM li_93 (by omega) ⟨fun hc => ?_, fun _ => ⟨hM.1, m_packedNeed hM hR (by omega) ?_⟩⟩
      · rw [m_rv 93 hR li_93 (by omega)] at hc
        dsimp only at hc
        rw [nI_leI (by omega) (by omega)] at hc
        omega
      · rw [nI_ltI (by omega) (by omega)]
        refine ⟨fun hc => ?_, fun hc => ?_⟩
        · rintro _ rfl _ rfl
          dsimp only
          rw [li_0, or_nI, nI_1]
          have e : opS q m (i + 1) = opS q m i ||| 0 := by rw [opS, if_neg (by omega)]
          rw [e] at hK
          exact hK
        · rintro _ rfl _ rfl
          dsimp only
          rw [shl_nI (by omega), or_nI, nI_1]
          have e : opS q m (i + 1) = opS q m i ||| 2 ^ i := by rw [opS, if_pos (by omega)]
          rw [e] at hK
          exact hK
    · refine m_rd 93 hM li_93 (by omega) ⟨fun _ => h, fun hc => ?_⟩
      rw [m_rv 93 hR li_93 (by omega)] at hc
      exact absurd (nI_le (Nat.le_refl _) (by omega)) hc
  · rw [if_neg hn] at h
    exact h
end MOPS4
