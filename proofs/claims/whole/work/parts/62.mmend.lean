/-! ===== mended curves ===== -/
def yv (q : Nat → Nat) (i : Nat) : Nat → Nat := fun t => q (450 + 40 * t + i)
def onc (y : Nat → Nat) (k : Nat) (H : List Nat) (c : Nat → Nat) : Nat := (H.filter (fun t => decide (at29 c k (t + 1) = y t))).length
def Mnd (y : Nat → Nat) (k : Nat) (H : List Nat) (c : Nat → Nat) : Prop := (∀ j, j < k → c j < 29) ∧ H.length ≤ onc y k H c + (H.length - k) / 2
theorem flt_two (P Q : Nat → Bool) : ∀ H : List Nat, (H.filter P).length + (H.filter Q).length ≤ (H.filter (fun t => P t && Q t)).length + H.length
  | [] => Nat.le_refl _
  | a :: H => by
    have ih := flt_two P Q H
    cases hp : P a <;> cases hq : Q a <;> simp [hp, hq] <;> omega
theorem Mnd_eq {y : Nat → Nat} {k : Nat} {H : List Nat} {c d : Nat → Nat} (hH : H.Nodup) (h8 : ∀ t, t ∈ H → t < 8) (hk : k ≤ H.length) (hc : Mnd y k H c) (hd : Mnd y k H d) : ∀ j, j < k → c j = d j := by
  have h2 := flt_two (fun t => decide (at29 c k (t + 1) = y t)) (fun t => decide (at29 d k (t + 1) = y t)) H
  have hc2 := hc.2
  have hd2 := hd.2
  unfold onc at hc2 hd2
  refine Thr_eq (y := y) (L := H.filter (fun t => decide (at29 c k (t + 1) = y t) && decide (at29 d k (t + 1) = y t))) (List.Pairwise.filter _ hH) (fun t ht => h8 t (List.mem_filter.mp ht).1) (by omega) ⟨hc.1, fun t ht => ?_⟩ ⟨hd.1, fun t ht => ?_⟩
  · have := (List.mem_filter.mp ht).2
    rw [Bool.and_eq_true] at this
    exact of_decide_eq_true this.1
  · have := (List.mem_filter.mp ht).2
    rw [Bool.and_eq_true] at this
    exact of_decide_eq_true this.2
theorem sub_nI {a b : Nat} (ha : a < 256) : (nI a &&& (nI b ^^^ (-1))) = 0 ↔ ∀ t, t < 8 → a / 2 ^ t % 2 = 1 → b / 2 ^ t % 2 = 1 := by
  have hx : (nI a &&& (nI b ^^^ (-1))).toBitVec = BitVec.ofNat 32 a &&& (BitVec.ofNat 32 b ^^^ BitVec.allOnes 32) := rfl
  have hbit : ∀ i, i < 32 → (nI a &&& (nI b ^^^ (-1))).toBitVec.getLsbD i = (a.testBit i && !(b.testBit i)) := by
    intro i hi
    rw [hx, BitVec.getLsbD_and, BitVec.getLsbD_xor, BitVec.getLsbD_ofNat, BitVec.getLsbD_ofNat, BitVec.getLsbD_allOnes]
    simp only [hi, decide_true, Bool.true_and, Bool.xor_true]
  have tb : ∀ n t : Nat, n / 2 ^ t % 2 = 1 ↔ n.testBit t = true := by
    intro n t
    rw [← Nat.toNat_testBit]
    cases n.testBit t <;> simp
  constructor
  · intro h t ht hat
    rw [tb] at hat ⊢
    have h1 := hbit t (by omega)
    rw [h, hat] at h1
    cases hb : b.testBit t with
    | true => rfl
    | false =>
      rw [hb] at h1
      have : ((0 : Int32).toBitVec).getLsbD t = false := by
        show (BitVec.ofNat 32 0).getLsbD t = false
        simp
      rw [this] at h1
      simp at h1
  · intro h
    apply Int32.toBitVec_inj.mp
    apply BitVec.eq_of_getLsbD_eq
    intro i hi
    rw [hbit i hi]
    have h0 : ((0 : Int32).toBitVec).getLsbD i = false := by
      show (BitVec.ofNat 32 0).getLsbD i = false
      simp
    rw [h0]
    cases ha' : a.testBit i with
    | false => rfl
    | true =>
      have hi8 : i < 8 := by
        rcases Nat.lt_or_ge i 8 with h | h
        · exact h
        · have : a.testBit i = false := Nat.testBit_lt_two_pow (Nat.lt_of_lt_of_le (by omega : a < 2 ^ 8) (Nat.pow_le_pow_right (by omega) h))
          rw [this] at ha'
          cases ha'
      have := (tb b i).mp (h i hi8 ((tb a i).mpr ha'))
      rw [this]
      rfl
section MMEND
variable {S : Hp} {mo : Nat} {σ : Sg} {q : Nat → Nat}
theorem m_on {i m : Nat} {c : Nat → Nat} {Q : Int32 → Prop} (hM : MK S mo) (hR : MR S mo q) (hV : V q) (hi : i < 40) (hm : m < 256) (hc : ∀ j, j < 8 → gI S 0 (mo + 5) j = nI (c j)) (hc2 : ∀ j, j < 8 → c j < 29) (h : Q (nI (mkS (fun t => decide (m / 2 ^ t % 2 = 1) && decide (at29 c 8 (t + 1) = yv q i t)) 8))) : wp_X12_on mo (nI i) (nI m) S Q := by
  obtain ⟨k0, ⟨r1, k1, l1⟩, -, -, -, ⟨r5, k5, l5⟩, -⟩ := id hM
  refine Lp_for (fun t => (nI (mkS (fun t => decide (m / 2 ^ t % 2 = 1) && decide (at29 c 8 (t + 1) = yv q i t)) t), nI t)) 8 (fun t ht K hK => ?_) (fun K => ?_) (i := 0) (by omega)
  · have no : ¬ ((decide (m / 2 ^ t % 2 = 1) && decide (at29 c 8 (t + 1) = yv q i t)) = true) → wp_X12_on_60 (fun w0 w1 => K (w0, w1)) Q mo (nI i) (nI m) (nI (mkS (fun t => decide (m / 2 ^ t % 2 = 1) && decide (at29 c 8 (t + 1) = yv q i t)) t)) (nI t) 0 S := by
      intro hn
      refine ⟨fun _ => ?_, fun w => absurd rfl w⟩
      rintro _ rfl _ rfl
      rw [li_0, or_nI, nI_1]
      rw [mkS, if_neg hn] at hK
      exact hK
    refine ⟨fun hc => ?_, fun _ => ⟨fun hb => ?_, fun hb => ?_⟩⟩
    · dsimp only at hc
      rw [li_8, nI_leI (by omega) (by omega)] at hc
      omega
    · dsimp only at hb
      rw [bit_nI (by omega) (by omega), li_1, nI_ne (by omega) (by omega)] at hb
      exact no (by simp [hb])
    · dsimp only at hb ⊢
      rw [bit_nI (by omega) (by omega), li_1, nI_eq (by omega) (by omega)] at hb
      have e4 : (450 : Int32) + 40 * nI t + nI i = nI (450 + 40 * t + i) := by rw [li_450, li_40, pk_mul, nI_add, nI_add]
      have hyt := (hV.2.2.2.2.2.2.2 t ht i hi).2
      have h29 := at29_lt c 8 (t + 1)
      refine ⟨k0, _, r1, k1, by rw [e4, l1]; exact vp_li (by omega) (by omega), k0, _, r5, k0, ?_⟩
      rw [nI_1]
      refine m_at (n := 8) k5 l5 (by omega) (by omega) hc hc2 ⟨fun hd => ?_, fun hd => ?_⟩
      · rw [e4, nI_clamp (by omega), hR _ (by omega), nI_ne (by omega) (by omega)] at hd
        refine no (by
          have : ¬ at29 c 8 (t + 1) = yv q i t := fun e => hd e.symm
          simp [this])
      · rw [e4, nI_clamp (by omega), hR _ (by omega), nI_eq (by omega) (by omega)] at hd
        have hy : (decide (m / 2 ^ t % 2 = 1) && decide (at29 c 8 (t + 1) = yv q i t)) = true := by
          have : at29 c 8 (t + 1) = yv q i t := hd.symm
          simp [this, hb]
        refine ⟨fun w => absurd w (by decide), fun _ => ?_⟩
        rintro _ rfl _ rfl
        rw [shl_nI (by omega), or_nI, nI_1]
        rw [mkS, if_pos hy] at hK
        exact hK
  · exact ⟨fun _ => h, fun hc => absurd (nI_le (Nat.le_refl 8) (by omega)) hc⟩
/-- how many of a set lie on the curve -/
theorem ones_on {y : Nat → Nat} {m k : Nat} {c : Nat → Nat} (hk : k ≤ 8) (hc0 : ∀ j, k ≤ j → c j = 0) : onesS (mkS (fun t => decide (m / 2 ^ t % 2 = 1) && decide (at29 c 8 (t + 1) = y t)) 8) 8 = onc y k (pts m 8) c := by
  rw [← pts_len, mkS_pts]
  unfold onc pts
  rw [List.filter_filter]
  congr 1
  apply List.filter_congr
  intro t _
  rw [at29_tail hk (fun j a _ => hc0 j a), Bool.and_comm]
theorem M_mends {i k : Nat} {Q : Int32 → Hp → Prop} (hM : MK S mo) (hR : MR S mo q) (hV : V q) (hi : i < 40) (hk1 : 1 ≤ k) (hkl : k ≤ (hol q i (q 94)).length) (h1 : ∀ g5 g6 c, Mnd (yv q i) k (hol q i (q 94)) c → (∀ j, k ≤ j → c j = 0) → (∀ j, j < 8 → g5 j = nI (c j)) → Q 1 (LH S mo g5 g6)) (h0 : ∀ g5 g6, (¬ ∃ c, Mnd (yv q i) k (hol q i (q 94)) c) → Q 0 (LH S mo g5 g6)) : wp_X12_mends mo (nI i) (nI k) S Q := by
  have h8 := hV.2.2.2.2.1
  have hlt := hmS_lt q i (q 94)
  have hpow : 2 ^ q 94 ≤ 2 ^ 8 := Nat.pow_le_pow_right (by omega) h8.2.1
  have hpts := hm_pts (q := q) (i := i) (n := q 94) h8.2.1
  have hlen : (hol q i (q 94)).length ≤ 8 := by
    rw [← ones_hm h8.2.1]
    exact onesS_le _ 8
  have hH8 : ∀ t, t ∈ hol q i (q 94) → t < 8 := fun t ht => by
    have := (hol_mem.mp ht).1
    omega
  refine ⟨hM.1, m_holders hM hR hV (by omega) (m_ones (by omega) ⟨by decide, ?_⟩)⟩
  rw [ones_hm h8.2.1, pk_sub hkl, li_2, pk_div (by omega) (by omega) (by omega)]
  rintro _ rfl
  generalize hall : hmS q i (q 94) = all at hpts hlt ⊢
  have hall8 : all < 256 := by omega
  refine Lp_of (fun n y => ∃ s g5 g6, s ≤ 256 ∧ n = 256 - s ∧ y = (nI s, LH S mo g5 g6) ∧ ∀ s', s' < s → (∀ t, t < 8 → s' / 2 ^ t % 2 = 1 → all / 2 ^ t % 2 = 1) → onesS s' 8 = k → ∀ c, Thr (yv q i) k (pts s' 8) c → ¬ Mnd (yv q i) k (hol q i (q 94)) c) (fun n y hy K hK => ?_) (n := 256) (x := (nI 0, S)) ⟨0, gI S 0 (mo + 5), gI S 0 (mo + 6), by omega, rfl, by rw [LH_self], fun s' hs' => by omega⟩
  obtain ⟨s, g5, g6, hs, rfl, rfl, hno⟩ := hy
  have again : ∀ g5' g6', s < 256 → ((∀ t, t < 8 → s / 2 ^ t % 2 = 1 → all / 2 ^ t % 2 = 1) → onesS s 8 = k → ∀ c, Thr (yv q i) k (pts s 8) c → ¬ Mnd (yv q i) k (hol q i (q 94)) c) → K (nI s + 1, LH S mo g5' g6') := by
    intro g5' g6' hs2 hcur
    rw [nI_1]
    refine hK _ (256 - (s + 1)) (by omega) ⟨s + 1, g5', g6', by omega, rfl, rfl, fun s' hs' => ?_⟩
    by_cases e : s' = s
    · subst e
      exact hcur
    · exact hno s' (by omega)
  refine ⟨fun hc => ?_, fun hc => ⟨fun hsub => ?_, fun hsub => m_ones (by dsimp only at hc; rw [li_256, nI_leI (by omega) (by omega)] at hc; omega) ⟨fun ho => ?_, fun ho => ?_⟩⟩⟩
  · dsimp only at hc ⊢
    rw [li_256, nI_leI (by omega) (by omega)] at hc
    obtain rfl : s = 256 := by omega
    refine h0 g5 g6 ?_
    rintro ⟨c, hcm⟩
    -- those of the holders that lie on c, and the first k of them
    generalize hom : mkS (fun t => decide (all / 2 ^ t % 2 = 1) && decide (at29 c k (t + 1) = yv q i t)) 8 = om
    have om8 : om < 256 := by
      rw [← hom]
      exact mkS_lt _ 8
    have hk8 : k < 9 := by omega
    obtain ⟨-, f2, f3⟩ := fr_ok om om8 k hk8
    have hpo : pts om 8 = (hol q i (q 94)).filter (fun t => decide (at29 c k (t + 1) = yv q i t)) := by
      rw [← hom, mkS_pts, ← hpts]
      unfold pts
      rw [List.filter_filter]
      apply List.filter_congr
      intro t _
      rw [Bool.and_comm]
    have hpl : k ≤ (pts om 8).length := by
      have := hcm.2
      unfold onc at this
      rw [hpo]
      omega
    refine hno (frN om k) (by omega) (fun t ht hbt => ?_) ?_ c ⟨hcm.1, fun t ht => ?_⟩ hcm
    · have : t ∈ pts (frN om k) 8 := pts_mem.mpr ⟨ht, hbt⟩
      rw [f2] at this
      have := List.mem_of_mem_take this
      rw [hpo, ← hpts] at this
      exact (pts_mem.mp (List.mem_filter.mp this).1).2
    · rw [← pts_len, f2, List.length_take]
      omega
    · rw [f2] at ht
      have := List.mem_of_mem_take ht
      rw [hpo] at this
      exact of_decide_eq_true (List.mem_filter.mp this).2
  · dsimp only at hc hsub ⊢
    rw [li_256, nI_leI (by omega) (by omega)] at hc
    rintro _ rfl
    exact again g5 g6 (by omega) fun w => absurd ((sub_nI (by omega)).mpr w) hsub
  · dsimp only at hc ⊢
    rw [li_256, nI_leI (by omega) (by omega)] at hc
    have hol8 := onesS_le s 8
    rw [nI_ne (by omega) (by omega)] at ho
    rintro _ rfl
    exact again g5 g6 (by omega) fun _ w => absurd w ho
  · dsimp only at hc hsub ⊢
    rw [li_256, nI_leI (by omega) (by omega)] at hc
    have hol8 := onesS_le s 8
    rw [nI_eq (by omega) (by omega)] at ho
    rw [sub_nI (by omega)] at hsub
    have hML : MK (LH S mo g5 g6) mo := hM
    have hRL : ∀ g5 g6, MR (LH S mo g5 g6) mo q := fun g5 g6 j hj => by
      rw [LH_g (by omega)]
      exact hR j hj
    refine ⟨hM.1, M_lays hML (hRL _ _) hV hi (by omega) ho fun g5' g6' c hth hc0 hg5 => ?_⟩
    have eLL : LH (LH S mo g5 g6) mo g5' g6' = LH S mo g5' g6' := by
      unfold LH setA
      congr 3
      funext f' a' i'
      by_cases h6 : f' = 0 ∧ a' = mo + 6
      · rw [if_pos h6, if_pos h6]
      · rw [if_neg h6, if_neg h6]
        dsimp only
        by_cases h5 : f' = 0 ∧ a' = mo + 5
        · rw [if_pos h5, if_pos h5]
        · rw [if_neg h5, if_neg h5, if_neg h6, if_neg h5]
    rw [eLL]
    have hc29 : ∀ j, j < 8 → c j < 29 := fun j _ => by
      rcases Nat.lt_or_ge j k with hjk | hjk
      · exact hth.1 j hjk
      · rw [hc0 j hjk]
        decide
    refine m_ones (by omega) ⟨hM.1, m_on (S := LH S mo g5' g6') hM (hRL _ _) hV hi hall8 (fun j hj => by rw [LH_g5]; exact hg5 j hj) hc29 (m_ones (Nat.lt_of_lt_of_le (mkS_lt _ 8) (by omega)) ?_)⟩
    rw [ones_on (by omega) hc0, hpts, ← pts_len all, hpts]
    have hole : onc (yv q i) k (hol q i (q 94)) c ≤ (hol q i (q 94)).length := List.length_filter_le _ _
    rw [pk_sub hole, nI_ltI (by omega) (by omega)]
    refine ⟨fun hlt2 => ?_, fun hge => h1 g5' g6' c ⟨hth.1, by omega⟩ hc0 hg5⟩
    rintro _ rfl
    refine again g5' g6' (by omega) fun _ _ d hd hm => ?_
    -- d is c
    have e := Thr_eq (pts_nd s 8) (fun t ht => (pts_mem.mp ht).1) (by rw [pts_len, ho]; exact Nat.le_refl _) hd hth
    have e2 : onc (yv q i) k (hol q i (q 94)) d = onc (yv q i) k (hol q i (q 94)) c := by
      unfold onc
      congr 1
      apply List.filter_congr
      intro t _
      rw [at29_cg e]
    have := hm.2
    rw [e2] at this
    omega
end MMEND
