/-! ===== the reference: sets, curves ===== -/
def dn (i : Nat) : Int32 := nI i - 1
theorem dn_0 : dn 0 = -1 := by decide
theorem dn_s (i : Nat) : dn (i + 1) = nI i := nI_pred i
theorem dn_m (i : Nat) : nI i + (-1) = dn i := by
  cases i with
  | zero => decide
  | succ i => rw [pk_m1, dn_s]
theorem dn_lt0 {i : Nat} (h : i < 2 ^ 30) : dn i < 0 ↔ i = 0 := by
  cases i with
  | zero => exact ⟨fun _ => rfl, fun _ => by decide⟩
  | succ i =>
    rw [dn_s]
    exact ⟨fun w => absurd w (nI_pos (by omega)), fun w => by omega⟩
/-- a set's bits, by a test -/
def mkS (b : Nat → Bool) : Nat → Nat
  | 0 => 0
  | t + 1 => mkS b t ||| (if b t = true then 2 ^ t else 0)
theorem mkS_bit (b : Nat → Bool) : ∀ n t, mkS b n / 2 ^ t % 2 = if t < n ∧ b t = true then 1 else 0
  | 0, t => by
    rw [if_neg (by omega)]
    show 0 / 2 ^ t % 2 = 0
    rw [Nat.zero_div]
  | n + 1, t => by
    have ih := mkS_bit b n t
    rw [← Nat.toNat_testBit] at ih ⊢
    unfold mkS
    rw [Nat.testBit_or]
    by_cases h : b n = true
    · rw [if_pos h, Nat.testBit_two_pow]
      by_cases e : n = t
      · subst e
        rw [if_pos ⟨by omega, h⟩]
        simp
      · simp only [e, decide_false, Bool.or_false]
        rw [ih]
        by_cases h2 : t < n ∧ b t = true
        · rw [if_pos h2, if_pos ⟨by omega, h2.2⟩]
        · rw [if_neg h2, if_neg (fun w => h2 ⟨by omega, w.2⟩)]
    · rw [if_neg h, Nat.zero_testBit, Bool.or_false, ih]
      by_cases h2 : t < n ∧ b t = true
      · rw [if_pos h2, if_pos ⟨by omega, h2.2⟩]
      · rw [if_neg h2, if_neg (fun w => h2 ⟨by
          have : t ≠ n := fun e => h (e ▸ w.2)
          omega, w.2⟩)]
theorem mkS_lt (b : Nat → Bool) : ∀ n, mkS b n < 2 ^ n
  | 0 => Nat.one_pos
  | n + 1 => by
    have h1 := mkS_lt b n
    have h3 : 2 ^ n < 2 ^ (n + 1) := Nat.pow_lt_pow_right (by omega) (by omega)
    unfold mkS
    split
    · exact Nat.or_lt_two_pow (Nat.lt_trans h1 h3) h3
    · rw [Nat.or_zero]
      exact Nat.lt_trans h1 h3
theorem mkS_pts (b : Nat → Bool) : pts (mkS b 8) 8 = (List.range 8).filter b := by
  unfold pts
  apply List.filter_congr
  intro t ht
  rw [List.mem_range] at ht
  rw [mkS_bit]
  cases hb : b t
  · rw [if_neg (by simp)]
    rfl
  · rw [if_pos ⟨ht, rfl⟩]
    rfl
section MLAYS
variable {S : Hp} {mo : Nat} {σ : Sg} {q : Nat → Nat}
theorem m_ones {m : Nat} {Q : Int32 → Prop} (hm : m < 2 ^ 31) (h : Q (nI (onesS m 8))) : wp_X12_ones (nI m) S Q := by
  refine Lp_for (fun i => (nI (onesS m i), nI i)) 8 (fun i hi K hK => ?_) (fun K => ?_) (i := 0) (by omega)
  · refine ⟨fun hc => ?_, fun _ => ?_⟩
    · dsimp only at hc
      rw [li_8, nI_leI (by omega) (by omega)] at hc
      omega
    · rintro _ rfl _ rfl
      dsimp only
      rw [bit_nI hm (by omega), nI_add, nI_1]
      exact hK
  · exact ⟨fun _ => h, fun hc => absurd (nI_le (Nat.le_refl 8) (by omega)) hc⟩
theorem m_over {a : Nat} {Q : Int32 → Prop} (ha : a < 29) (h0 : a ≠ 0) (h : ∀ b, b < 29 → a * b % 29 = 1 → Q (nI b)) : wp_X12_over (nI a) S Q := by
  obtain ⟨v, hv, hv1, hav⟩ := inv29 a ha h0
  refine Lp_of (fun n y => ∃ i, i ≤ v ∧ n = v - i ∧ y = nI i) (fun n y hy K hK => ?_) (n := v - 1) (x := nI 1) ⟨1, hv1, rfl, rfl⟩
  obtain ⟨i, hi, rfl, rfl⟩ := hy
  have hai : a * i < 2 ^ 31 := by
    have : a * i ≤ 28 * 28 := Nat.mul_le_mul (by omega) (by omega)
    omega
  refine ⟨by decide, fun hc => ?_, fun hc => ?_⟩
  · rw [pk_mul, li_29, pk_rem hai (by omega) (by omega), li_1, nI_eq (by omega) (by omega)] at hc
    exact h i (by omega) hc
  · rw [pk_mul, li_29, pk_rem hai (by omega) (by omega), li_1, nI_eq (by omega) (by omega)] at hc
    rintro _ rfl
    rw [nI_1]
    have : i ≠ v := fun e => hc (e ▸ hav)
    exact hK _ (v - (i + 1)) (by omega) ⟨i + 1, by omega, rfl, rfl⟩
def frI (s : Nat) : Nat → Int32 × Int32
  | 0 => (0, nI s)
  | k + 1 => ((frI s k).1 ||| ((frI s k).2 &&& (-(frI s k).2)), (frI s k).2 &&& ((frI s k).2 - 1))
def frN (s m : Nat) : Nat := ((pts s 8).take m).foldl (fun a t => a + 2 ^ t) 0
theorem fr_ok : ∀ s, s < 256 → ∀ m, m < 9 → (frI s m).1 = nI (frN s m) ∧ pts (frN s m) 8 = (pts s 8).take m ∧ frN s m < 256 := by decide +kernel
theorem m_firsts {s k : Nat} {Q : Int32 → Prop} (hs : s < 256) (hk : k < 9) (h : Q (nI (frN s k))) : wp_X12_firsts (nI s) (nI k) S Q := by
  refine Lp_for (fun i => ((frI s i).1, (frI s i).2, nI i)) k (fun i hi K hK => ?_) (fun K => ?_) (i := 0) (by omega)
  · refine ⟨fun hc => ?_, fun _ => ?_⟩
    · dsimp only at hc
      rw [nI_leI (by omega) (by omega)] at hc
      omega
    · rintro _ rfl _ rfl _ rfl
      dsimp only
      rw [nI_1]
      exact hK
  · refine ⟨fun _ => ?_, fun hc => absurd (nI_le (Nat.le_refl k) (by omega)) hc⟩
    dsimp only
    rw [(fr_ok s hs k hk).1]
    exact h
theorem m_at {a n x : Nat} {c : Nat → Nat} {Q : Int32 → Prop} (h20 : kd S a = 20) (hn : ln S a = n) (hn9 : n ≤ 9) (hx : x ≤ 8) (hc : ∀ j, j < n → gI S 0 a j = nI (c j)) (hc2 : ∀ j, j < n → c j < 29) (h : Q (nI (at29 c n x))) : wp_X12_at_ mo a (nI n) (nI x) S Q := by
  rintro _ rfl
  refine Lp_for (fun j => (nI (hr c n x j), dn (n - j))) n (fun j hj K hK => ?_) (fun K => ?_) (i := 0) (by omega)
  · have hd : dn (n - j) = nI (n - 1 - j) := by rw [show n - j = (n - 1 - j) + 1 by omega, dn_s]
    refine ⟨fun hc => ?_, fun _ => ⟨h20, ?_, by decide, ?_⟩⟩
    · dsimp only at hc
      rw [dn_lt0 (by omega)] at hc
      omega
    · dsimp only
      rw [hd, hn]
      exact vp_li (by omega) (by omega)
    · have hl := hr_lt c n x j
      have hcj := hc2 (n - 1 - j) (by omega)
      have hm : hr c n x j * x ≤ 28 * 8 := Nat.mul_le_mul (by omega) hx
      rintro _ rfl
      dsimp only
      rw [hd, nI_clamp (by omega), hc _ (by omega), pk_mul, nI_add, li_29, pk_rem (by omega) (by omega) (by omega), dn_m, show n - 1 - j = n - (j + 1) by omega]
      rw [show n - 1 - j = n - (j + 1) by omega] at *
      have e : hr c n x (j + 1) = (hr c n x j * x + c (n - (j + 1))) % 29 := by
        show (hr c n x j * x + c (n - 1 - j)) % 29 = _
        rw [show n - 1 - j = n - (j + 1) by omega]
      rw [e] at hK
      exact hK
  · refine ⟨fun _ => h, fun hc => absurd ?_ hc⟩
    dsimp only
    rw [dn_lt0 (by omega)]
    omega
theorem m_holders {i : Nat} {Q : Int32 → Prop} (hM : MK S mo) (hR : MR S mo q) (hV : V q) (hi : i < 2 ^ 20) (h : Q (nI (hmS q i (q 94)))) : wp_X12_holders mo (nI i) S Q := by
  have h8 := hV.2.2.2.2.1
  refine Lp_for (fun t => (nI (hmS q i t), nI t)) (q 94) (fun t ht K hK => ?_) (fun K => ?_) (i := 0) (by omega)
  · have hv := hV.2.2.2.2.2.2.1 t (by omega)
    refine m_rd 94 hM li_94 (by omega) ⟨fun hc => ?_, fun _ => ⟨hM.1, m_hasNumber hM hR hV (by omega) (fun j hj hx h0 => ⟨fun w => absurd w (by decide), fun _ => ?_⟩) (fun hn => ⟨fun _ => ?_, fun w => absurd rfl w⟩)⟩⟩
    · rw [m_rv 94 hR li_94 (by omega)] at hc
      dsimp only at hc
      rw [nI_leI (by omega) (by omega)] at hc
      omega
    · obtain rfl : i = j := nI_inj (by omega) (by omega) hx
      rintro _ rfl _ rfl
      dsimp only
      rw [shl_nI (by omega), or_nI, nI_1]
      have e : hmS q i (t + 1) = hmS q i t ||| 2 ^ t := by rw [hmS, if_pos ⟨h0, hj⟩]
      rw [e] at hK
      exact hK
    · rintro _ rfl _ rfl
      dsimp only
      rw [li_0, or_nI, nI_1]
      have e : hmS q i (t + 1) = hmS q i t ||| 0 := by rw [hmS, if_neg (fun w => hn ⟨w.1, (vp_nI (by omega)).mpr w.2⟩)]
      rw [e] at hK
      exact hK
  · refine m_rd 94 hM li_94 (by omega) ⟨fun _ => h, fun hc => ?_⟩
    rw [m_rv 94 hR li_94 (by omega)] at hc
    exact absurd (nI_le (Nat.le_refl _) (by omega)) hc
/-- the heap with other numbers in curve and through -/
def LH (S : Hp) (mo : Nat) (g5 g6 : Nat → Int32) : Hp := setA (setA S (mo + 5) g5) (mo + 6) g6
theorem LH_6 (g5 g6 : Nat → Int32) (i : Nat) (v : Int32) : sI (LH S mo g5 g6) 0 (mo + 6) i v = LH S mo g5 (va_up g6 i v) := setA_sI _ _ _ _ _
theorem LH_5 (g5 g6 : Nat → Int32) (i : Nat) (v : Int32) : sI (LH S mo g5 g6) 0 (mo + 5) i v = LH S mo (va_up g5 i v) g6 := by
  unfold sI LH setA up3 va_up
  congr 3
  funext f' a' i'
  by_cases h6 : f' = 0 ∧ a' = mo + 6
  · rw [if_neg (by omega), if_pos h6]
    dsimp only
    rw [if_pos h6]
  · by_cases h5 : f' = 0 ∧ a' = mo + 5
    · obtain ⟨rfl, rfl⟩ := h5
      by_cases hi : i' = i <;> simp [hi]
    · have h2 : ¬ (f' = 0 ∧ a' = mo + 5 ∧ i' = i) := fun w => h5 ⟨w.1, w.2.1⟩
      simp only [if_neg h2, if_neg h5, if_neg h6]
theorem LH_g5 (g5 g6 : Nat → Int32) (i : Nat) : gI (LH S mo g5 g6) 0 (mo + 5) i = g5 i := by
  unfold LH
  rw [gI_setA, if_neg (by omega), setA_at]
theorem LH_g6 (g5 g6 : Nat → Int32) (i : Nat) : gI (LH S mo g5 g6) 0 (mo + 6) i = g6 i := setA_at _ _ _ _
theorem LH_g {f a i : Nat} {g5 g6 : Nat → Int32} (h : ¬ (f = 0 ∧ (a = mo + 5 ∨ a = mo + 6))) : gI (LH S mo g5 g6) f a i = gI S f a i := by
  unfold LH
  rw [gI_setA, if_neg (by omega), gI_setA, if_neg (by omega)]
theorem LH_self : LH S mo (gI S 0 (mo + 5)) (gI S 0 (mo + 6)) = S := by
  unfold LH
  have e : gI S 0 (mo + 6) = gI (setA S (mo + 5) (gI S 0 (mo + 5))) 0 (mo + 6) := by
    rw [setA_self]
  rw [e, setA_self, setA_self]
theorem LH_so (g5 g6 : Nat → Int32) : SO mo S (LH S mo g5 g6) := SO_tr (SO_setA ⟨by omega, by omega⟩) (SO_setA ⟨by omega, by omega⟩)
theorem MS_LH {g5 g6 : Nat → Int32} (h : MS S mo σ) : MS (LH S mo g5 g6) mo σ := by
  obtain ⟨hM, hR, ⟨hu, hu8, hus⟩, ⟨ht1, ht2, ht3⟩, hw⟩ := h
  refine ⟨hM, fun i hi => ?_, ⟨?_, hu8, fun j u hj k hk => ?_⟩, ⟨?_, ht2, fun i hi => ⟨?_, (ht3 i hi).2⟩⟩, fun i hi => ?_⟩
  · rw [LH_g (by omega)]
    exact hR i hi
  · rw [LH_g (by omega)]
    exact hu
  · rw [LH_g (by omega)]
    exact hus j u hj k hk
  · rw [LH_g (by omega)]
    exact ht1
  · rw [LH_g (by omega)]
    exact (ht3 i hi).1
  · rw [LH_g (by omega)]
    exact hw i hi
/-- lays(i, m): the curve through the packets of m -/
theorem M_lays {i m k : Nat} {Q : Hp → Prop} (hM : MK S mo) (hR : MR S mo q) (hV : V q) (hi : i < 40) (hm : m < 256) (hk : onesS m 8 = k) (h : ∀ g5 g6 c, Thr (fun t => q (450 + 40 * t + i)) k (pts m 8) c → (∀ j, k ≤ j → c j = 0) → (∀ j, j < 8 → g5 j = nI (c j)) → Q (LH S mo g5 g6)) : wp_X12_lays mo (nI i) (nI m) S Q := by
  obtain ⟨k0, ⟨r1, k1, l1⟩, -, -, -, ⟨r5, k5, l5⟩, ⟨r6, k6, l6⟩, -⟩ := id hM
  have hy : ∀ t, t < 8 → q (450 + 40 * t + i) < 29 := fun t ht => by
    have := (hV.2.2.2.2.2.2.2 t ht i hi).2
    omega
  -- the loop over the packets
  have main : ∀ p g5 g6 c th, p ≤ 8 → LayI (fun t => q (450 + 40 * t + i)) m p c th → (∀ j, j < 8 → g5 j = nI (c j)) → (∀ j, j < 9 → g6 j = nI (th j)) → wp_X12_lays_41 Q mo (nI i) (nI m) (nI p) (LH S mo g5 g6) := by
    intro p g5 g6 c th hp hL hg5 hg6
    refine Lp_of (fun n y => ∃ p g5 g6 c th, p ≤ 8 ∧ n = 8 - p ∧ y = (nI p, LH S mo g5 g6) ∧ LayI (fun t => q (450 + 40 * t + i)) m p c th ∧ (∀ j, j < 8 → g5 j = nI (c j)) ∧ (∀ j, j < 9 → g6 j = nI (th j))) (fun n y hy' K hK => ?_) (n := 8 - p) (x := (nI p, LH S mo g5 g6)) ⟨p, g5, g6, c, th, hp, rfl, rfl, hL, hg5, hg6⟩
    obtain ⟨p, g5, g6, c, th, hp, rfl, rfl, hL, hg5, hg6⟩ := hy'
    refine ⟨fun hc => ?_, fun hc => ⟨fun hb => ?_, fun hb => ?_⟩⟩
    · dsimp only at hc ⊢
      rw [li_8, nI_leI (by omega) (by omega)] at hc
      obtain rfl : p = 8 := by omega
      obtain ⟨a1, a2⟩ := LayI_thr hy hk hL
      exact h g5 g6 c a1 a2 hg5
    · dsimp only at hc hb ⊢
      rw [li_8, nI_leI (by omega) (by omega)] at hc
      rw [bit_nI (by omega) (by omega), li_1, nI_ne (by omega) (by omega)] at hb
      rintro _ rfl
      rw [nI_1]
      exact hK _ (8 - (p + 1)) (by omega) ⟨p + 1, g5, g6, c, th, by omega, rfl, rfl, LayI_skip hb hL, hg5, hg6⟩
    · dsimp only at hc hb ⊢
      rw [li_8, nI_leI (by omega) (by omega)] at hc
      rw [bit_nI (by omega) (by omega), li_1, nI_eq (by omega) (by omega)] at hb
      rintro _ rfl
      have e4 : (450 : Int32) + 40 * nI p + nI i = nI (450 + 40 * p + i) := by rw [li_450, li_40, pk_mul, nI_add, nI_add]
      refine ⟨k0, _, r1, k1, ?_, k0, _, r5, k0, ?_⟩
      · rw [e4]
        show vp_in _ (ln S (mo + 1))
        rw [l1]
        exact vp_li (by omega) (by omega)
      · rw [nI_1]
        obtain ⟨⟨c1, c1'⟩, ⟨c2, c2'⟩, -, -, c5⟩ := id hL
        refine m_at (S := LH S mo g5 g6) (n := 8) k5 l5 (by omega) (by omega) (fun j hj => by rw [LH_g5]; exact hg5 j hj) (fun j _ => c1 j) ⟨by decide, ?_⟩
        rintro _ rfl
        refine ⟨k0, _, r6, k0, m_at (S := LH S mo g5 g6) (n := 9) k6 l6 (by omega) (by omega) (fun j hj => by rw [LH_g6]; exact hg6 j hj) (fun j _ => c2 j) ?_⟩
        have ee : (((p + 1 : Nat)) : Int) = (p : Int) + 1 := by omega
        have hT := at29_ev th 9 (p + 1)
        have hC := at29_ev c 8 (p + 1)
        rw [ee] at hT hC
        have hne : at29 th 9 (p + 1) ≠ 0 := fun w => c5 p (Nat.le_refl _) (by omega) (by rw [w] at hT; omega)
        refine m_over (at29_lt _ _ _) hne (fun v hv29 hv => ⟨by decide, ?_⟩)
        have hyp := hy p (by omega)
        have hC29 := at29_lt c 8 (p + 1)
        have e1 : gI (LH S mo g5 g6) 0 (mo + 1) ((450 : Int32) + 40 * nI p + nI i).toNatClampNeg = nI (q (450 + 40 * p + i)) := by
          rw [e4, nI_clamp (by omega), LH_g (by omega)]
          exact hR _ (by omega)
        rw [e1, li_29, nI_add, pk_sub (by omega), pk_rem (by omega) (by omega) (by omega)]
        have hlk : (q (450 + 40 * p + i) + 29 - at29 c 8 (p + 1)) % 29 < 29 := Nat.mod_lt _ (by decide)
        generalize hl : (q (450 + 40 * p + i) + 29 - at29 c 8 (p + 1)) % 29 = l at hlk ⊢
        have hlv : l * v ≤ 28 * 28 := Nat.mul_le_mul (by omega) (by omega)
        rw [pk_mul, pk_rem (by omega) (by omega) (by omega)]
        rintro _ rfl
        have hbl : l * v % 29 < 29 := Nat.mod_lt _ (by decide)
        generalize hb2 : l * v % 29 = b at hbl ⊢
        have hstep := LayI_step (b := b) (by omega) hb hL (lack_ok hC hT hC29 hl.symm hv hb2.symm)
        -- curve
        refine Lp_of (fun n y => ∃ k5' g5', k5' ≤ 8 ∧ n = 8 - k5' ∧ y = (nI k5', LH S mo g5' g6) ∧ (∀ j, j < k5' → g5' j = nI ((c j + b * th j) % 29)) ∧ (∀ j, k5' ≤ j → j < 8 → g5' j = nI (c j))) (fun n y hy' K2 hK2 => ?_) (n := 8) (x := (nI 0, LH S mo g5 g6)) ⟨0, g5, by omega, rfl, rfl, fun j hj => by omega, fun j _ hj => hg5 j hj⟩
        obtain ⟨j5, g5', hj5, rfl, rfl, ha5, hb5⟩ := hy'
        refine ⟨fun hd => ?_, fun hd => ⟨k0, k0, _, r5, k5, ?_, k0, _, r6, k6, ?_, by decide, k5, ?_, ?_⟩⟩
        · dsimp only at hd ⊢
          rw [li_8, nI_leI (by omega) (by omega)] at hd
          obtain rfl : j5 = 8 := by omega
          -- through
          refine Lp_of (fun n y => ∃ k6' g6', k6' ≤ 9 ∧ k6' = n ∧ y = (dn k6', LH S mo g5' g6') ∧ (∀ j, k6' ≤ j → j < 9 → g6' j = nI (((if j = 0 then 0 else th (j - 1)) + (29 - (p + 1)) * th j) % 29)) ∧ (∀ j, j < k6' → g6' j = nI (th j))) (fun n y hy' K3 hK3 => ?_) (n := 9) (x := (dn 9, LH S mo g5' g6)) ⟨9, g6, by omega, rfl, rfl, fun j hj h9 => by omega, fun j hj => hg6 j hj⟩
          obtain ⟨j6, g6', hj6, rfl, rfl, ha6, hb6⟩ := hy'
          refine ⟨fun he => ?_, fun he => ⟨k0, ?_⟩⟩
          · dsimp only at he ⊢
            rw [dn_lt0 (by omega)] at he
            subst he
            rintro _ rfl
            rw [nI_1]
            exact hK _ (8 - (p + 1)) (by omega) ⟨p + 1, g5', g6', _, _, by omega, rfl, rfl, hstep, fun j hj => ha5 j hj, fun j hj => ha6 j (by omega) hj⟩
          · dsimp only at he ⊢
            rw [dn_lt0 (by omega)] at he
            obtain ⟨r, rfl⟩ : ∃ r, j6 = r + 1 := ⟨j6 - 1, by omega⟩
            rw [dn_s]
            -- the end of the step
            have fin : ∀ z : Nat, z < 29 → z = (if r = 0 then 0 else th (r - 1)) → wp_X12_lays_197 (fun w0 w1 => K (w0, w1)) (fun w0 w1 => K3 (w0, w1)) Q mo (nI i) (nI m) (nI p) (nI (p + 1)) (nI r) (nI z) (nI r) (some (mo + 6)) (LH S mo g5' g6') := by
              intro z hz29 hz
              have ht29 := c2 r
              have hmul : (29 - (p + 1)) * th r ≤ 28 * 28 := Nat.mul_le_mul (by omega) (by omega)
              refine ⟨k0, _, r6, k6, by show vp_in _ (ln S (mo + 6)); rw [l6]; exact vp_li (by omega) (by omega), by decide, _, rfl, k6, by show vp_in _ (ln S (mo + 6)); rw [l6]; exact vp_li (by omega) (by omega), ?_⟩
              rintro _ rfl _ rfl
              rw [nI_clamp (by omega), LH_g6, hb6 r (by omega), li_29, pk_sub (by omega), pk_mul, nI_add, pk_rem (by omega) (by omega) (by omega), dn_m, LH_6]
              refine hK3 _ r (by omega) ⟨r, _, by omega, rfl, rfl, fun j h1 h9 => ?_, fun j hj => ?_⟩
              · by_cases e : j = r
                · subst e
                  rw [va_up_self, hz]
                · rw [va_up_ne _ _ e]
                  exact ha6 j (by omega) h9
              · rw [va_up_ne _ _ (by omega)]
                exact hb6 j (by omega)
            refine ⟨fun hr0 => ?_, fun hr0 => ?_⟩
            · have : r = 0 := by
                rw [li_0, nI_leI (by omega) (by omega)] at hr0
                omega
              have e205 : gR (LH S mo g5' g6') 205 mo 0 = some (mo + 6) := r6
              rw [e205]
              exact fin 0 (by decide) (by rw [if_pos this])
            · have hr1 : r ≠ 0 := fun w => hr0 (by rw [w]; decide)
              have hth := c2 (r - 1)
              refine ⟨k0, _, r6, k6, ?_, ?_⟩
              · rw [li_1, pk_sub (by omega)]
                show vp_in _ (ln S (mo + 6))
                rw [l6]
                exact vp_li (by omega) (by omega)
              · rw [li_1, pk_sub (by omega), nI_clamp (by omega), LH_g6, hb6 (r - 1) (by omega)]
                exact fin _ hth (by rw [if_neg hr1])
        · show vp_in _ (ln S (mo + 5))
          dsimp only at hd ⊢
          rw [li_8, nI_leI (by omega) (by omega)] at hd
          rw [l5]
          exact vp_li (by omega) (by omega)
        · show vp_in _ (ln S (mo + 6))
          dsimp only at hd ⊢
          rw [li_8, nI_leI (by omega) (by omega)] at hd
          rw [l6]
          exact vp_li (by omega) (by omega)
        · show vp_in _ (ln S (mo + 5))
          dsimp only at hd ⊢
          rw [li_8, nI_leI (by omega) (by omega)] at hd
          rw [l5]
          exact vp_li (by omega) (by omega)
        · dsimp only at hd ⊢
          rw [li_8, nI_leI (by omega) (by omega)] at hd
          have hc29 := c1 j5
          have ht29 := c2 j5
          have hmul : b * th j5 ≤ 28 * 28 := Nat.mul_le_mul (by omega) (by omega)
          rintro _ rfl _ rfl
          rw [nI_clamp (by omega), LH_g5, LH_g6, hb5 j5 (Nat.le_refl _) (by omega), hg6 j5 (by omega), pk_mul, nI_add, li_29, pk_rem (by omega) (by omega) (by omega), LH_5, nI_1]
          refine hK2 _ (8 - (j5 + 1)) (by omega) ⟨j5 + 1, _, by omega, rfl, rfl, fun j hj => ?_, fun j h1 h8 => ?_⟩
          · by_cases e : j = j5
            · subst e
              rw [va_up_self]
            · rw [va_up_ne _ _ e]
              exact ha5 j (by omega)
          · rw [va_up_ne _ _ (by omega)]
            exact hb5 j (by omega) h8
  -- the first loop
  have key := Lp_of (B := fun K y => wb_X12_lays_2 (fun w0 w1 => K (w0, w1)) Q mo (nI i) (nI m) y.1 y.2) (fun n y => ∃ r g5 g6, r ≤ 9 ∧ n = 9 - r ∧ y = (nI r, LH S mo g5 g6) ∧ (∀ j, j < r → j < 8 → g5 j = 0) ∧ (∀ j, j < r → g6 j = nI (if j = 0 then 1 else 0))) (fun n y hy' K hK => ?_) (n := 9) (x := (nI 0, S)) ⟨0, _, _, by omega, rfl, by rw [LH_self], fun j hj => by omega, fun j hj => by omega⟩
  · exact key
  · obtain ⟨r, g5, g6, hr, rfl, rfl, ha, hb⟩ := hy'
    have fin : ∀ z : Nat, z = (if r = 0 then 1 else 0) → r < 9 → wp_X12_lays_22 (fun w0 w1 => K (w0, w1)) Q mo (nI i) (nI m) (nI r) (nI z) (nI r) (some (mo + 6)) (LH S mo g5 g6) := by
      intro z hz hr9
      refine ⟨_, rfl, k6, by show vp_in _ (ln S (mo + 6)); rw [l6]; exact vp_li (by omega) (by omega), ?_⟩
      rintro _ rfl
      have hr8 : r % 8 < 8 := Nat.mod_lt _ (by decide)
      refine ⟨k0, by decide, _, r5, k5, ?_, ?_⟩
      · rw [li_8, pk_rem (by omega) (by omega) (by omega)]
        show vp_in _ (ln S (mo + 5))
        rw [l5]
        exact vp_li (by omega) (by omega)
      · rintro _ rfl _ rfl
        rw [li_8, pk_rem (by omega) (by omega) (by omega), nI_clamp (by omega), nI_clamp (by omega), LH_6, LH_5, nI_1]
        refine hK _ (9 - (r + 1)) (by omega) ⟨r + 1, _, _, by omega, rfl, rfl, fun j hj hj8 => ?_, fun j hj => ?_⟩
        · by_cases e : j = r % 8
          · rw [e, va_up_self]
          · rw [va_up_ne _ _ e]
            exact ha j (by omega) hj8
        · by_cases e : j = r
          · rw [e, va_up_self, hz]
          · rw [va_up_ne _ _ e]
            exact hb j (by omega)
    refine ⟨fun hc => ?_, fun hc => ⟨k0, fun h0 => ?_, fun h0 => ?_⟩⟩
    · dsimp only at hc ⊢
      rw [li_9, nI_leI (by omega) (by omega)] at hc
      exact main 0 g5 g6 _ _ (by omega) (LayI_0 _ m) (fun j hj => ha j (by omega) hj) (fun j hj => hb j (by omega))
    · dsimp only at hc h0 ⊢
      rw [li_9, nI_leI (by omega) (by omega)] at hc
      have e205 : gR (LH S mo g5 g6) 205 mo 0 = some (mo + 6) := r6
      rw [e205]
      exact fin 0 (by rw [if_neg (fun w => h0 (by rw [w]; rfl))]) (by omega)
    · dsimp only at hc h0 ⊢
      rw [li_9, nI_leI (by omega) (by omega)] at hc
      rw [li_0, nI_eq (by omega) (by omega)] at h0
      have e205 : gR (LH S mo g5 g6) 205 mo 0 = some (mo + 6) := r6
      rw [e205]
      exact fin 1 (by rw [if_pos h0]) (by omega)
end MLAYS
