/-! ===== pure rows: loops, numbers ===== -/
theorem Lp_of {X : Type} {B : (X → Prop) → X → Prop} (J : Nat → X → Prop) (h : ∀ n y, J n y → ∀ K : X → Prop, (∀ w n', n' < n → J n' w → K w) → B K y) {n : Nat} {x : X} (hx : J n x) : Lp B x := by
  have hl : ∀ y : X, ∃ k : Nat, (∃ n, J n y) → (J k y ∧ ∀ j, j < k → ¬ J j y) := by
    intro y
    by_cases hy : ∃ n, J n y
    · obtain ⟨k, hk⟩ := pk_least (fun n => J n y) hy
      exact ⟨k, fun _ => hk⟩
    · exact ⟨0, fun q => absurd q hy⟩
  refine ⟨fun y => ∃ n, J n y, fun y => Classical.choose (hl y), ⟨n, hx⟩, fun y hy => ?_⟩
  have hs := Classical.choose_spec (hl y) hy
  refine h _ y hs.1 _ (fun w n' hn hw => ⟨⟨n', hw⟩, ?_⟩)
  have hw' := Classical.choose_spec (hl w) ⟨n', hw⟩
  refine Nat.lt_of_le_of_lt ?_ hn
  exact Nat.not_lt.mp fun q => hw'.2 n' q hw
theorem Lp_for {X : Type} {B : (X → Prop) → X → Prop} (f : Nat → X) (e : Nat) (hs : ∀ i, i < e → ∀ K : X → Prop, K (f (i + 1)) → B K (f i)) (hl : ∀ K : X → Prop, B K (f e)) {i : Nat} (hi : i ≤ e) : Lp B (f i) := by
  refine Lp_of (fun n y => ∃ i, i ≤ e ∧ n = e - i ∧ y = f i) (fun n y hy K hK => ?_) ⟨i, hi, rfl, rfl⟩
  obtain ⟨i, hi, rfl, rfl⟩ := hy
  by_cases he : i = e
  · subst he
    exact hl K
  · exact hs i (by omega) K (hK _ (e - (i + 1)) (by omega) ⟨i + 1, by omega, rfl, rfl⟩)
theorem li_0 : (0 : Int32) = nI 0 := rfl
theorem li_1 : (1 : Int32) = nI 1 := rfl
theorem li_2 : (2 : Int32) = nI 2 := rfl
theorem li_3 : (3 : Int32) = nI 3 := rfl
theorem li_4 : (4 : Int32) = nI 4 := rfl
theorem li_5 : (5 : Int32) = nI 5 := rfl
theorem li_6 : (6 : Int32) = nI 6 := rfl
theorem li_7 : (7 : Int32) = nI 7 := rfl
theorem li_8 : (8 : Int32) = nI 8 := rfl
theorem li_9 : (9 : Int32) = nI 9 := rfl
theorem li_10 : (10 : Int32) = nI 10 := rfl
theorem li_11 : (11 : Int32) = nI 11 := rfl
theorem li_12 : (12 : Int32) = nI 12 := rfl
theorem li_13 : (13 : Int32) = nI 13 := rfl
theorem li_14 : (14 : Int32) = nI 14 := rfl
theorem li_15 : (15 : Int32) = nI 15 := rfl
theorem li_16 : (16 : Int32) = nI 16 := rfl
theorem li_17 : (17 : Int32) = nI 17 := rfl
theorem li_18 : (18 : Int32) = nI 18 := rfl
theorem li_19 : (19 : Int32) = nI 19 := rfl
theorem li_20 : (20 : Int32) = nI 20 := rfl
theorem li_21 : (21 : Int32) = nI 21 := rfl
theorem li_22 : (22 : Int32) = nI 22 := rfl
theorem li_23 : (23 : Int32) = nI 23 := rfl
theorem li_24 : (24 : Int32) = nI 24 := rfl
theorem li_25 : (25 : Int32) = nI 25 := rfl
theorem li_26 : (26 : Int32) = nI 26 := rfl
theorem li_27 : (27 : Int32) = nI 27 := rfl
theorem li_28 : (28 : Int32) = nI 28 := rfl
theorem li_29 : (29 : Int32) = nI 29 := rfl
theorem li_31 : (31 : Int32) = nI 31 := rfl
theorem li_32 : (32 : Int32) = nI 32 := rfl
theorem li_33 : (33 : Int32) = nI 33 := rfl
theorem li_39 : (39 : Int32) = nI 39 := rfl
theorem li_40 : (40 : Int32) = nI 40 := rfl
theorem li_41 : (41 : Int32) = nI 41 := rfl
theorem li_48 : (48 : Int32) = nI 48 := rfl
theorem li_57 : (57 : Int32) = nI 57 := rfl
theorem li_59 : (59 : Int32) = nI 59 := rfl
theorem li_63 : (63 : Int32) = nI 63 := rfl
theorem li_93 : (93 : Int32) = nI 93 := rfl
theorem li_94 : (94 : Int32) = nI 94 := rfl
theorem li_95 : (95 : Int32) = nI 95 := rfl
theorem li_96 : (96 : Int32) = nI 96 := rfl
theorem li_97 : (97 : Int32) = nI 97 := rfl
theorem li_99 : (99 : Int32) = nI 99 := rfl
theorem li_101 : (101 : Int32) = nI 101 := rfl
theorem li_107 : (107 : Int32) = nI 107 := rfl
theorem li_108 : (108 : Int32) = nI 108 := rfl
theorem li_109 : (109 : Int32) = nI 109 := rfl
theorem li_111 : (111 : Int32) = nI 111 := rfl
theorem li_112 : (112 : Int32) = nI 112 := rfl
theorem li_114 : (114 : Int32) = nI 114 := rfl
theorem li_115 : (115 : Int32) = nI 115 := rfl
theorem li_116 : (116 : Int32) = nI 116 := rfl
theorem li_122 : (122 : Int32) = nI 122 := rfl
theorem li_130 : (130 : Int32) = nI 130 := rfl
theorem li_150 : (150 : Int32) = nI 150 := rfl
theorem li_200 : (200 : Int32) = nI 200 := rfl
theorem li_255 : (255 : Int32) = nI 255 := rfl
theorem li_256 : (256 : Int32) = nI 256 := rfl
theorem li_287 : (287 : Int32) = nI 287 := rfl
theorem li_450 : (450 : Int32) = nI 450 := rfl
theorem li_770 : (770 : Int32) = nI 770 := rfl
theorem li_1540 : (1540 : Int32) = nI 1540 := rfl
theorem li_5390 : (5390 : Int32) = nI 5390 := rfl
theorem li_6930 : (6930 : Int32) = nI 6930 := rfl
theorem li_100000 : (100000 : Int32) = nI 100000 := rfl
theorem li_1000000 : (1000000 : Int32) = nI 1000000 := rfl
theorem vp_nI {a n : Nat} (ha : a < 2 ^ 31) : vp_in (nI a) n ↔ a < n := by
  rw [vp_in_iff, nI_toInt ha]
  omega
theorem nI_ne {a b : Nat} (ha : a < 2 ^ 31) (hb : b < 2 ^ 31) : nI a ≠ nI b ↔ a ≠ b := not_congr (nI_eq ha hb)
theorem nI_inj {a b : Nat} (ha : a < 2 ^ 31) (hb : b < 2 ^ 31) (h : nI a = nI b) : a = b := (nI_eq ha hb).mp h
theorem of_nI (n : Nat) : Int32.ofNat n = nI n := rfl
/-- an int within bounds -/
theorem bd_of {x : Int32} {n : Nat} (h0 : 0 ≤ x.toInt) (h1 : x.toInt ≤ n) : ∃ j : Nat, j ≤ n ∧ x = nI j := by
  refine ⟨x.toInt.toNat, by omega, ?_⟩
  apply Int32.toInt_inj.mp
  have hb := Int32.toInt_lt x
  rw [nI_toInt (by omega)]
  omega
theorem lgc_lt (x y : Int64) : lg_cmp x y < 0 ↔ x.toInt < y.toInt := by
  have h := lg_cmp_ge x y
  rw [Int64.le_iff_toInt_le] at h
  rw [← Int32.not_le, h]
  omega
theorem lgc_gt (x y : Int64) : 0 < lg_cmp x y ↔ y.toInt < x.toInt := by
  unfold lg_cmp
  by_cases h : x > y
  · rw [if_pos h]
    have := Int64.lt_iff_toInt_lt.mp h
    exact ⟨fun _ => this, fun _ => by decide⟩
  · rw [if_neg h]
    have h1 : ¬ y.toInt < x.toInt := fun q => h (Int64.lt_iff_toInt_lt.mpr q)
    by_cases h2 : x = y
    · rw [if_pos h2]
      exact ⟨fun q => absurd q (by decide), fun q => absurd q h1⟩
    · rw [if_neg h2]
      exact ⟨fun q => absurd q (by decide), fun q => absurd q h1⟩
/-! ===== the reference's cells ===== -/
def MK (S : Hp) (mo : Nat) : Prop := kd S mo = 13 ∧ (gR S 193 mo 0 = some (mo + 1) ∧ kd S (mo + 1) = 20 ∧ ln S (mo + 1) = 6930) ∧ (gR S 195 mo 0 = some (mo + 2) ∧ kd S (mo + 2) = 20 ∧ ln S (mo + 2) = 200) ∧ (gR S 202 mo 0 = some (mo + 3) ∧ kd S (mo + 3) = 20 ∧ ln S (mo + 3) = 2) ∧ (gR S 203 mo 0 = some (mo + 4) ∧ kd S (mo + 4) = 20 ∧ ln S (mo + 4) = 28) ∧ (gR S 204 mo 0 = some (mo + 5) ∧ kd S (mo + 5) = 20 ∧ ln S (mo + 5) = 8) ∧ (gR S 205 mo 0 = some (mo + 6) ∧ kd S (mo + 6) = 20 ∧ ln S (mo + 6) = 9) ∧ (gR S 206 mo 0 = some (mo + 7) ∧ kd S (mo + 7) = 20 ∧ ln S (mo + 7) = 287)
/-- the rows, as numbers -/
def MR (S : Hp) (mo : Nat) (r : Nat → Nat) : Prop := ∀ i, i < 770 → gI S 0 (mo + 1) i = nI (r i)
theorem m_in {x : Int32} {lo hi : Int64} {S : Hp} {Q : Int32 → Prop} (h1 : lo.toInt ≤ x.toInt → x.toInt ≤ hi.toInt → Q 1) (h0 : ¬ (lo.toInt ≤ x.toInt ∧ x.toInt ≤ hi.toInt) → Q 0) : wp_X12_in x.toInt64 lo hi S Q := by
  have e : x.toInt64.toInt = x.toInt := Int32.toInt_toInt64 x
  refine ⟨fun hc => ?_, fun hc => ⟨fun hd => ?_, fun hd => ?_⟩⟩
  · rw [lgc_lt, e] at hc
    exact ⟨Or.inl rfl, h0 (by omega)⟩
  · rw [lgc_lt, e] at hc
    rw [lgc_gt, e] at hd
    exact ⟨Or.inl rfl, h0 (by omega)⟩
  · rw [lgc_lt, e] at hc
    rw [lgc_gt, e] at hd
    exact ⟨Or.inr rfl, h1 (by omega) (by omega)⟩
theorem c_within {x lo hi : Int32} {S : Hp} {Q : Int32 → Prop} (h1 : lo.toInt ≤ x.toInt → x.toInt ≤ hi.toInt → Q 1) (h0 : ¬ (lo.toInt ≤ x.toInt ∧ x.toInt ≤ hi.toInt) → Q 0) : wp_X11_within x lo hi S Q := by
  refine ⟨fun hc => ?_, fun hc => ⟨fun hd => ?_, fun hd => ?_⟩⟩
  · rw [Int32.lt_iff_toInt_lt] at hc
    exact ⟨Or.inl rfl, h0 (by omega)⟩
  · rw [Int32.lt_iff_toInt_lt] at hd
    exact ⟨Or.inl rfl, h0 (by omega)⟩
  · rw [Int32.lt_iff_toInt_lt] at hc hd
    exact ⟨Or.inr rfl, h1 (by omega) (by omega)⟩
theorem vp_li {n N : Nat} (h : n < N) (hn : n < 2 ^ 31) : vp_in (nI n) N := (vp_nI hn).mpr h
/-- a place among n: asked as x between 0 and n less 1 -/
theorem m_inN {x : Int32} {n : Nat} {S : Hp} {Q : Int32 → Prop} (hn : n < 2 ^ 20) (h1 : ∀ j, j < n → x = nI j → Q 1) (h0 : ¬ vp_in x n → Q 0) : wp_X12_in x.toInt64 0 ((nI n - 1).toInt64) S Q := by
  have e1 : ((nI n - 1).toInt64).toInt = (n : Int) - 1 := by
    rw [Int32.toInt_toInt64, li_1, pk_sub_toInt (by omega) (by omega)]
    rfl
  have e0 : (0 : Int64).toInt = 0 := rfl
  refine m_in (fun a b => ?_) (fun a => h0 fun q => ?_)
  · rw [e0] at a
    rw [e1] at b
    obtain ⟨j, hj, rfl⟩ := bd_of (n := n) a (by omega)
    rw [nI_toInt (by omega)] at b
    exact h1 j (by omega) rfl
  · rw [vp_in_iff] at q
    rw [e0, e1] at a
    omega
theorem c_withinN {x : Int32} {n : Nat} {S : Hp} {Q : Int32 → Prop} (hn : n < 2 ^ 20) (h1 : ∀ j, j < n → x = nI j → Q 1) (h0 : ¬ vp_in x n → Q 0) : wp_X11_within x 0 (nI n - 1) S Q := by
  have e1 : (nI n - 1).toInt = (n : Int) - 1 := by
    rw [li_1, pk_sub_toInt (by omega) (by omega)]
    rfl
  have e0 : (0 : Int32).toInt = 0 := rfl
  refine c_within (fun a b => ?_) (fun a => h0 fun q => ?_)
  · rw [e0] at a
    rw [e1] at b
    obtain ⟨j, hj, rfl⟩ := bd_of (n := n) a (by omega)
    rw [nI_toInt (by omega)] at b
    exact h1 j (by omega) rfl
  · rw [vp_in_iff] at q
    rw [e0, e1] at a
    omega
/-- a number between two -/
theorem m_inB {x : Int32} {lo hi : Int64} {a b : Nat} {S : Hp} {Q : Int32 → Prop} (ea : lo.toInt = a) (eb : hi.toInt = b) (hb : b < 2 ^ 20) (h1 : ∀ j, a ≤ j → j ≤ b → x = nI j → Q 1) (h0 : ¬ ((a : Int) ≤ x.toInt ∧ x.toInt ≤ b) → Q 0) : wp_X12_in x.toInt64 lo hi S Q := by
  refine m_in (fun p q => ?_) (fun p => h0 (by rw [← ea, ← eb]; exact p))
  rw [ea] at p
  rw [eb] at q
  obtain ⟨j, hj, rfl⟩ := bd_of (n := b) (by omega) q
  rw [nI_toInt (by omega)] at p
  exact h1 j (by omega) hj rfl
theorem c_withinB {x lo hi : Int32} {a b : Nat} {S : Hp} {Q : Int32 → Prop} (ea : lo.toInt = a) (eb : hi.toInt = b) (hb : b < 2 ^ 20) (h1 : ∀ j, a ≤ j → j ≤ b → x = nI j → Q 1) (h0 : ¬ ((a : Int) ≤ x.toInt ∧ x.toInt ≤ b) → Q 0) : wp_X11_within x lo hi S Q := by
  refine c_within (fun p q => ?_) (fun p => h0 (by rw [← ea, ← eb]; exact p))
  rw [ea] at p
  rw [eb] at q
  obtain ⟨j, hj, rfl⟩ := bd_of (n := b) (by omega) q
  rw [nI_toInt (by omega)] at p
  exact h1 j (by omega) hj rfl
theorem m_isPart {S : Hp} {mo : Nat} {r : Nat → Nat} {x : Int32} {Q : Int32 → Prop} (hM : MK S mo) (hR : MR S mo r) (h2 : r 2 ≤ 6) (h1 : ∀ j, j < r 2 → x = nI j → Q 1) (h0 : ¬ vp_in x (r 2) → Q 0) : wp_X12_isPart mo x S Q := by
  obtain ⟨k0, ⟨r1, k1, l1⟩, -⟩ := hM
  refine ⟨k0, _, r1, k1, by rw [l1]; exact vp_li (n := 2) (by omega) (by omega), ?_⟩
  have e : gI S 0 (mo + 1) (2 : Int32).toNatClampNeg = nI (r 2) := hR 2 (by omega)
  rw [e]
  exact m_inN (by omega) (fun j hj hx => ⟨Or.inr rfl, h1 j hj hx⟩) (fun h => ⟨Or.inl rfl, h0 h⟩)
theorem str_lt {l k : Nat} (hl : l ≤ 12) (hk : 1 ≤ k) : (l + k - 1) / k ≤ 12 := by
  rw [Nat.div_le_iff_le_mul_add_pred hk]
  have : 12 ≤ k * 12 := Nat.le_mul_of_pos_left 12 hk
  omega
theorem m_stripes {l k : Nat} {S : Hp} {Q : Int32 → Prop} (hl : l < 2 ^ 20) (hk : 1 ≤ k) (hk2 : k < 2 ^ 20) (h : Q (nI ((l + k - 1) / k))) : wp_X12_stripes (nI l) (nI k) S Q := by
  refine ⟨nI_ne0 hk (by omega), ?_⟩
  rw [li_1, nI_add, pk_sub (by omega), pk_div (by omega) hk (by omega)]
  exact h
theorem m_stripesOf {S : Hp} {mo p : Nat} {r : Nat → Nat} {Q : Int32 → Prop} (hM : MK S mo) (hR : MR S mo r) (hp : p < 6) (hl : r (3 + 15 * p) ≤ 12) (hk : 1 ≤ r (4 + 15 * p)) (hk2 : r (4 + 15 * p) ≤ 8) (h : Q (nI ((r (3 + 15 * p) + r (4 + 15 * p) - 1) / r (4 + 15 * p)))) : wp_X12_stripesOf mo (nI p) S Q := by
  obtain ⟨k0, ⟨r1, k1, l1⟩, -⟩ := hM
  have e0 : (3 : Int32) + 15 * nI p + 0 = nI (3 + 15 * p) := by
    rw [li_3, li_15, li_0, pk_mul, nI_add, nI_add]
    rfl
  have e1 : (3 : Int32) + 15 * nI p + 1 = nI (4 + 15 * p) := by
    rw [li_3, li_15, li_1, pk_mul, nI_add, nI_add]
    congr 1
    omega
  refine ⟨k0, _, r1, k1, ?_, k0, _, r1, k1, ?_, ?_⟩
  · rw [e0, l1, vp_nI (by omega)]
    omega
  · rw [e1, l1, vp_nI (by omega)]
    omega
  · rw [e0, e1, nI_clamp (by omega), nI_clamp (by omega), hR _ (by omega), hR _ (by omega)]
    exact m_stripes (by omega) hk (by omega) h
