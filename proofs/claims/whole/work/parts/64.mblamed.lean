theorem two_bit (t u : Nat) : 2 ^ t / 2 ^ u % 2 = 1 ↔ t = u := by
  rw [← Nat.toNat_testBit, Nat.testBit_two_pow]
  by_cases h : t = u <;> simp [h]
theorem mk_one {t : Nat} {b : Nat → Bool} (ht : t < 8) : mkS (fun u => decide (2 ^ t / 2 ^ u % 2 = 1) && b u) 8 = 0 ↔ ¬ b t = true := by
  have hb := mkS_bit (fun u => decide (2 ^ t / 2 ^ u % 2 = 1) && b u) 8
  constructor
  · intro e h
    have h1 := hb t
    rw [e, if_pos ⟨ht, by simp [(two_bit t t).mpr rfl, h]⟩, Nat.zero_div] at h1
    omega
  · intro h
    apply Nat.eq_of_testBit_eq
    intro u
    have tb : ∀ n : Nat, n.testBit u = decide (n / 2 ^ u % 2 = 1) := by
      intro n
      rw [← Nat.toNat_testBit]
      cases n.testBit u <;> rfl
    rw [tb, tb, hb u, if_neg, Nat.zero_div]
    · rintro ⟨-, w⟩
      rw [Bool.and_eq_true, decide_eq_true_iff, two_bit] at w
      obtain ⟨rfl, w2⟩ := w
      exact h w2
theorem blA_le (q : Nat → Nat) (t p : Nat) : ∀ s, blA q t p s ≤ s
  | 0 => Nat.le_refl 0
  | s + 1 => by
    have := blA_le q t p s
    unfold blA
    by_cases h : Blm q t p s
    · rw [cI_pos h]
      omega
    · rw [cI_neg h]
      omega
theorem blB_le {q : Nat → Nat} (hV : V q) (t : Nat) : ∀ p, p ≤ q 93 → blB q t p ≤ 12 * p
  | 0, _ => Nat.le_refl 0
  | p + 1, hp => by
    have h1 := blB_le hV t p (by omega)
    have h2 := blA_le q t p (qS q p)
    have h3 := qS_le hV (p := p) (by omega)
    unfold blB
    omega
section MBLAMED
variable {S : Hp} {mo : Nat} {σ : Sg} {q : Nat → Nat}
theorem M_blamed {Q : Int32 → Hp → Prop} {x : Int32} (hS : MS S mo σ) (hV : V σ.1) (h : ∀ S', MS S' mo σ → SO mo S S' → Q (oBlamed σ.1 x) S') : wp_X12_blamed mo x S Q := by
  have h8 := hV.2.2.2.2.1
  unfold oBlamed at h
  refine ⟨hS.1.1, m_isPacket hS.1 hS.2.1 h8.2.1 (fun t ht hx => ⟨fun _ => ?_, fun w => absurd w (by decide)⟩) (fun hn => ⟨fun w => absurd rfl w, fun _ => ?_⟩)⟩
  · subst hx
    rw [if_pos ((okN_nI (by omega)).mpr ht), tn_nI (by omega)] at h
    have hM := hS.1
    have hR := hS.2.1
    have hfin : ∀ g5 g6, Q (nI (blB σ.1 t (σ.1 93))) (LH S mo g5 g6) := fun g5 g6 => h _ (MS_LH hS) (LH_so _ _)
    generalize σ.1 = q at *
    have hv := hV.2.2.2.2.2.2.1 t (by omega)
    have hpow : 2 ^ q 94 ≤ 2 ^ 8 := Nat.pow_le_pow_right (by omega) h8.2.1
    refine Lp_of (fun n y => ∃ p g5 g6, p ≤ q 93 ∧ n = q 93 - p ∧ y = (nI (blB q t p), nI p, LH S mo g5 g6)) (fun n y hy K hK => ?_) (n := q 93) (x := (nI 0, nI 0, S)) ⟨0, gI S 0 (mo + 5), gI S 0 (mo + 6), by omega, rfl, by rw [LH_self]; rfl⟩
    obtain ⟨p, g5, g6, hp, rfl, rfl⟩ := hy
    have hM' : MK (LH S mo g5 g6) mo := hM
    refine m_rd 93 hM' li_93 (by omega) ?_
    rw [m_rv 93 (MR_LH hR) li_93 (by omega)]
    have hbB := blB_le hV t p hp
    refine ⟨fun hc => ?_, fun hc => ?_⟩
    · dsimp only at hc ⊢
      rw [nI_leI (by omega) (by omega)] at hc
      obtain rfl : p = q 93 := by omega
      exact hfin g5 g6
    · dsimp only at hc ⊢
      rw [nI_leI (by omega) (by omega)] at hc
      have hp' : p < q 93 := by omega
      have hvp := hV.2.2.2.2.2.1 p hp'
      have hq := qS_le hV hp'
      refine Lp_of (fun n y => ∃ s g5 g6, s ≤ qS q p ∧ n = qS q p - s ∧ y = (nI (blB q t p + blA q t p s), nI s, LH S mo g5 g6)) (fun n y hy K2 hK2 => ?_) (n := qS q p) (x := (nI (blB q t p), nI 0, LH S mo g5 g6)) ⟨0, g5, g6, by omega, rfl, rfl⟩
      obtain ⟨s, h5, h6, hs, rfl, rfl⟩ := hy
      have hM2 : MK (LH S mo h5 h6) mo := hM
      have hbA := blA_le q t p s
      refine ⟨hM.1, m_packedStripes hM2 (MR_LH hR) hV hp' ⟨fun hd => ?_, fun hd => ⟨hM.1, m_packedFirst hM2 (MR_LH hR) (by omega) ?_⟩⟩⟩
      · dsimp only at hd ⊢
        rw [nI_leI (by omega) (by omega)] at hd
        obtain rfl : s = qS q p := by omega
        rintro _ rfl
        rw [nI_1]
        exact hK _ (q 93 - (p + 1)) (by omega) ⟨p + 1, h5, h6, by omega, rfl, rfl⟩
      · dsimp only at hd ⊢
        rw [nI_leI (by omega) (by omega)] at hd
        rintro _ rfl
        rw [nI_add]
        have hpl := pl_lt hV hp' (s := s) (by omega)
        have hlt := hmS_lt q (q (98 + 3 * p) + s) (q 94)
        have hl := hol_le q (q (98 + 3 * p) + s) (q 94)
        have go0 : ∀ i5 i6, ¬ Blm q t p s → wp_X12_blamed_119 (fun w0 w1 w2 => K (w0, w1, w2)) (fun w0 w1 w2 => K2 (w0, w1, w2)) Q mo (nI t) (nI p) (nI s) (nI (blB q t p + blA q t p s)) (LH S mo i5 i6) := by
          intro i5 i6 hn
          rintro _ rfl _ rfl
          rw [li_0, nI_add, nI_1]
          refine hK2 _ (qS q p - (s + 1)) (by omega) ⟨s + 1, i5, i6, by omega, rfl, ?_⟩
          rw [blA, cI_neg hn]
          rfl
        have go1 : ∀ i5 i6, Blm q t p s → wp_X12_blamed_120 (fun w0 w1 w2 => K (w0, w1, w2)) (fun w0 w1 w2 => K2 (w0, w1, w2)) Q mo (nI t) (nI p) (nI s) 1 (nI (blB q t p + blA q t p s)) (LH S mo i5 i6) := by
          intro i5 i6 hn
          rintro _ rfl _ rfl
          rw [nI_1, nI_1]
          refine hK2 _ (qS q p - (s + 1)) (by omega) ⟨s + 1, i5, i6, by omega, rfl, ?_⟩
          rw [blA, cI_pos hn]
          rfl
        refine ⟨hM.1, m_hasNumber hM2 (MR_LH hR) hV (by omega) (fun j hj hx hz0 => ⟨fun w => absurd w (by decide), fun _ => ?_⟩) (fun hn => ⟨fun _ => ⟨fun _ => go0 h5 h6 fun w => hn ⟨w.1.1, (vp_nI (by omega)).mpr w.1.2⟩, fun w => absurd rfl w⟩, fun w => absurd rfl w⟩)⟩
        obtain rfl : q (98 + 3 * p) + s = j := nI_inj (by omega) (by omega) hx
        refine ⟨hM.1, m_holders hM2 (MR_LH hR) hV (by omega) (m_ones (by omega) ⟨hM.1, m_packedNeed hM2 (MR_LH hR) (by omega) ?_⟩)⟩
        rw [ones_hm h8.2.1, nI_ltI (by omega) (by omega)]
        refine ⟨fun hc2 => ⟨fun _ => go0 h5 h6 fun w => by have := w.2.1; omega, fun w => absurd rfl w⟩, fun hc2 => ⟨hM.1, m_packedNeed hM2 (MR_LH hR) (by omega) ⟨hM.1, M_mends hM2 (MR_LH hR) hV hpl hvp.2.1.1 (by omega) (fun i5 i6 c hcm hc0 hg => ⟨fun w => absurd w (by decide), fun _ => ⟨fun w => absurd w (by decide), fun _ => ⟨hM.1, ?_⟩⟩⟩) (fun i5 i6 hno => ⟨fun _ => ⟨fun _ => ?_, fun w => absurd rfl w⟩, fun w => absurd rfl w⟩)⟩⟩⟩
        · rw [LH_LH]
          have hc29 : ∀ j, j < 8 → c j < 29 := fun j _ => by
            rcases Nat.lt_or_ge j (q (97 + 3 * p)) with hjk | hjk
            · exact hcm.1 j hjk
            · rw [hc0 j hjk]
              decide
          have ht2 : 2 ^ t ≤ 2 ^ 7 := Nat.pow_le_pow_right (by omega) (by omega)
          rw [shl_nI (by omega)]
          refine m_on (S := LH S mo i5 i6) hM (MR_LH hR) hV hpl (by omega) (fun j hj => by rw [LH_g5]; exact hg j hj) hc29 ?_
          have hmk := mkS_lt (fun u => decide (2 ^ t / 2 ^ u % 2 = 1) && decide (at29 c 8 (u + 1) = yv q (q (98 + 3 * p) + s) u)) 8
          have hiff : at29 c 8 (t + 1) = at29 (mndC q (q (98 + 3 * p) + s) (q (97 + 3 * p))) (q (97 + 3 * p)) (t + 1) := by
            rw [at29_tail (by omega) (fun j a _ => hc0 j a)]
            exact at29_cg (mndC_eq h8.2.1 (by omega) hcm)
          have h0 := mk_one (t := t) (b := fun u => decide (at29 c 8 (u + 1) = yv q (q (98 + 3 * p) + s) u)) (by omega)
          rw [decide_eq_true_iff] at h0
          rw [li_0, nI_ne (by omega) (by omega), nI_eq (by omega) (by omega), h0]
          refine ⟨fun hne => go0 i5 i6 fun w => ?_, fun hne => go1 i5 i6 ⟨⟨hz0, hj⟩, by omega, ⟨c, hcm⟩, ?_⟩⟩
          · exact hne (h0.mpr fun e => w.2.2.2 (hiff.symm.trans e))
          · intro e
            exact hne (hiff.trans e)
        · rw [LH_LH]
          exact go0 i5 i6 fun w => hno w.2.2.1
  · rw [if_neg (fun w => hn (okN_vp.mpr w))] at h
    exact h S hS (SO_rf mo S)
theorem inS_le (q : Nat → Nat) (st : Nat) : ∀ p, inS q st p ≤ p
  | 0 => Nat.le_refl 0
  | p + 1 => by
    have := inS_le q st p
    unfold inS
    split <;> omega
theorem stS_le (q : Nat → Nat) (p : Nat) : stS q p ≤ 2 := by
  unfold stS
  split
  · omega
  · by_cases h : ∃ s, s < qS q p ∧ Dbt q p s
    · rw [cI_pos h]
      omega
    · rw [cI_neg h]
      omega
theorem M_inState {st : Nat} {Q : Int32 → Hp → Prop} (hM : MK S mo) (hR : MR S mo q) (hV : V q) (hst : st ≤ 2) (h : ∀ g5 g6, Q (nI (inS q st (q 93))) (LH S mo g5 g6)) : wp_X12_inState mo (nI st) S Q := by
  have h8 := hV.2.2.2.2.1
  refine Lp_of (fun n y => ∃ p g5 g6, p ≤ q 93 ∧ n = q 93 - p ∧ y = (nI (inS q st p), nI p, LH S mo g5 g6)) (fun n y hy K hK => ?_) (n := q 93) (x := (nI 0, nI 0, S)) ⟨0, gI S 0 (mo + 5), gI S 0 (mo + 6), by omega, rfl, by rw [LH_self]; rfl⟩
  obtain ⟨p, g5, g6, hp, rfl, rfl⟩ := hy
  have hM' : MK (LH S mo g5 g6) mo := hM
  refine m_rd 93 hM' li_93 (by omega) ?_
  rw [m_rv 93 (MR_LH hR) li_93 (by omega)]
  have hle := inS_le q st p
  refine ⟨fun hc => ?_, fun hc => ⟨hM.1, ?_⟩⟩
  · dsimp only at hc ⊢
    rw [nI_leI (by omega) (by omega)] at hc
    obtain rfl : p = q 93 := by omega
    exact h g5 g6
  · dsimp only at hc ⊢
    rw [nI_leI (by omega) (by omega)] at hc
    refine M_stateOf hM' (MR_LH hR) hV (by omega) fun h5 h6 => ?_
    rw [LH_LH]
    have hs2 := stS_le q p
    refine ⟨fun he => ?_, fun he => ?_⟩
    · rw [nI_ne (by omega) (by omega)] at he
      rintro _ rfl _ rfl
      rw [li_0, nI_add, nI_1]
      refine hK _ (q 93 - (p + 1)) (by omega) ⟨p + 1, h5, h6, by omega, rfl, ?_⟩
      rw [inS, if_neg he]
    · rw [nI_eq (by omega) (by omega)] at he
      rintro _ rfl _ rfl
      rw [nI_1, nI_1]
      refine hK _ (q 93 - (p + 1)) (by omega) ⟨p + 1, h5, h6, by omega, rfl, ?_⟩
      rw [inS, if_pos he]
end MBLAMED
