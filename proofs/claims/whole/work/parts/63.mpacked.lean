/-! ===== what is packed: the answers ===== -/
noncomputable def cI {α : Type} (P : Prop) (a b : α) : α := @ite α P (Classical.propDecidable P) a b
theorem cI_pos {α : Type} {P : Prop} {a b : α} (h : P) : cI P a b = a := if_pos h
theorem cI_neg {α : Type} {P : Prop} {a b : α} (h : ¬ P) : cI P a b = b := if_neg h
noncomputable def thrC (q : Nat → Nat) (i k : Nat) : Nat → Nat := Classical.epsilon (fun c => Thr (yv q i) k ((hol q i (q 94)).take k) c)
noncomputable def mndC (q : Nat → Nat) (i k : Nat) : Nat → Nat := Classical.epsilon (fun c => Mnd (yv q i) k (hol q i (q 94)) c)
def Mdd (q : Nat → Nat) (i k : Nat) : Prop := ∃ c, Mnd (yv q i) k (hol q i (q 94)) c
def Dbt (q : Nat → Nat) (p s : Nat) : Prop := ¬ ∀ t, t ∈ hol q (q (98 + 3 * p) + s) (q 94) → at29 (thrC q (q (98 + 3 * p) + s) (q (97 + 3 * p))) (q (97 + 3 * p)) (t + 1) = yv q (q (98 + 3 * p) + s) t
def fwS (q : Nat → Nat) (p m : Nat) : Nat → Nat
  | 0 => m
  | s + 1 => min (fwS q p m s) (hol q (q (98 + 3 * p) + s) (q 94)).length
noncomputable def stS (q : Nat → Nat) (p : Nat) : Nat := if fwS q p 8 (qS q p) < q (97 + 3 * p) then 0 else cI (∃ s, s < qS q p ∧ Dbt q p s) 2 1
def ogS (k : Nat) : Nat → Nat
  | 0 => 0
  | s + 1 => ogS k s + (if k ≤ onesS s 8 then 1 else 0)
noncomputable def oPacked (q : Nat → Nat) (p w : Int32) : Int32 := if okN p (q 93) then (if w = 0 then nI (stS q (tn p)) else if w = 1 then nI (q (97 + 3 * tn p)) else if w = 2 then nI (q (96 + 3 * tn p)) else if w = 3 then nI (q (98 + 3 * tn p)) else if w = 4 then nI (fwS q (tn p) 8 (qS q (tn p))) else if w = 5 then nI (ogS (q (97 + 3 * tn p)) (2 ^ q 94)) else -3) else -2
noncomputable def oRead (q : Nat → Nat) (p i : Int32) : Int32 := if okN p (q 93) ∧ okN i (q (96 + 3 * tn p)) then (if q (97 + 3 * tn p) ≤ (hol q (q (98 + 3 * tn p) + tn i / q (97 + 3 * tn p)) (q 94)).length then nI (thrC q (q (98 + 3 * tn p) + tn i / q (97 + 3 * tn p)) (q (97 + 3 * tn p)) (tn i % q (97 + 3 * tn p))) else -4) else -2
noncomputable def oMended (q : Nat → Nat) (p i : Int32) : Int32 := if okN p (q 93) ∧ okN i (q (96 + 3 * tn p)) then (if q (97 + 3 * tn p) ≤ (hol q (q (98 + 3 * tn p) + tn i / q (97 + 3 * tn p)) (q 94)).length then (cI (Mdd q (q (98 + 3 * tn p) + tn i / q (97 + 3 * tn p)) (q (97 + 3 * tn p))) (nI (mndC q (q (98 + 3 * tn p) + tn i / q (97 + 3 * tn p)) (q (97 + 3 * tn p)) (tn i % q (97 + 3 * tn p)))) (-1)) else -4) else -2
def Blm (q : Nat → Nat) (t p s : Nat) : Prop := has q t (q (98 + 3 * p) + s) ∧ q (97 + 3 * p) ≤ (hol q (q (98 + 3 * p) + s) (q 94)).length ∧ Mdd q (q (98 + 3 * p) + s) (q (97 + 3 * p)) ∧ at29 (mndC q (q (98 + 3 * p) + s) (q (97 + 3 * p))) (q (97 + 3 * p)) (t + 1) ≠ yv q (q (98 + 3 * p) + s) t
noncomputable def blA (q : Nat → Nat) (t p : Nat) : Nat → Nat
  | 0 => 0
  | s + 1 => blA q t p s + cI (Blm q t p s) 1 0
noncomputable def blB (q : Nat → Nat) (t : Nat) : Nat → Nat
  | 0 => 0
  | p + 1 => blB q t p + blA q t p (qS q p)
noncomputable def oBlamed (q : Nat → Nat) (t : Int32) : Int32 := if okN t (q 94) then nI (blB q (tn t) (q 93)) else -2
noncomputable def inS (q : Nat → Nat) (st : Nat) : Nat → Nat
  | 0 => 0
  | p + 1 => inS q st p + (if stS q p = st then 1 else 0)
theorem thrC_eq {q : Nat → Nat} {i k : Nat} {c : Nat → Nat} (h8 : q 94 ≤ 8) (hk : k ≤ (hol q i (q 94)).length) (h : Thr (yv q i) k ((hol q i (q 94)).take k) c) : ∀ j, j < k → c j = thrC q i k j := by
  have hs : Thr (yv q i) k ((hol q i (q 94)).take k) (thrC q i k) := Classical.epsilon_spec (p := fun c => Thr (yv q i) k ((hol q i (q 94)).take k) c) ⟨c, h⟩
  refine Thr_eq (List.Pairwise.sublist (List.take_sublist _ _) (hol_nd q i (q 94))) (fun t ht => ?_) (by rw [List.length_take]; omega) h hs
  have := (hol_mem.mp (List.mem_of_mem_take ht)).1
  omega
theorem mndC_eq {q : Nat → Nat} {i k : Nat} {c : Nat → Nat} (h8 : q 94 ≤ 8) (hk : k ≤ (hol q i (q 94)).length) (h : Mnd (yv q i) k (hol q i (q 94)) c) : ∀ j, j < k → c j = mndC q i k j := by
  have hs : Mnd (yv q i) k (hol q i (q 94)) (mndC q i k) := Classical.epsilon_spec (p := fun c => Mnd (yv q i) k (hol q i (q 94)) c) ⟨c, h⟩
  refine Mnd_eq (hol_nd q i (q 94)) (fun t ht => ?_) hk h hs
  have := (hol_mem.mp ht).1
  omega
theorem fwS_le {q : Nat → Nat} {p m : Nat} : ∀ s s', s' < s → fwS q p m s ≤ (hol q (q (98 + 3 * p) + s') (q 94)).length
  | s + 1, s', h => by
    unfold fwS
    by_cases e : s' = s
    · subst e
      exact Nat.min_le_right _ _
    · exact Nat.le_trans (Nat.min_le_left _ _) (fwS_le s s' (by omega))
theorem fwS_m {q : Nat → Nat} {p m : Nat} : ∀ s, fwS q p m s ≤ m
  | 0 => Nat.le_refl _
  | s + 1 => Nat.le_trans (Nat.min_le_left _ _) (fwS_m s)
theorem hol_le (q : Nat → Nat) (i n : Nat) : (hol q i n).length ≤ n := by
  have := List.length_filter_le (fun t => decide (has q t i)) (List.range n)
  rw [List.length_range] at this
  exact this
theorem mk_all {m : Nat} {b : Nat → Bool} (hm : m < 256) : mkS (fun t => decide (m / 2 ^ t % 2 = 1) && b t) 8 = m ↔ ∀ t, t ∈ pts m 8 → b t = true := by
  constructor
  · intro e t ht
    rw [pts_mem] at ht
    have h1 := mkS_bit (fun t => decide (m / 2 ^ t % 2 = 1) && b t) 8 t
    rw [e] at h1
    by_cases hc : t < 8 ∧ (decide (m / 2 ^ t % 2 = 1) && b t) = true
    · have := hc.2
      rw [Bool.and_eq_true] at this
      exact this.2
    · rw [if_neg hc] at h1
      omega
  · intro h
    apply Nat.eq_of_testBit_eq
    intro t
    have tb : ∀ n : Nat, n.testBit t = decide (n / 2 ^ t % 2 = 1) := by
      intro n
      rw [← Nat.toNat_testBit]
      cases n.testBit t <;> rfl
    rw [tb, tb, mkS_bit]
    by_cases ht : t < 8
    · by_cases hb : m / 2 ^ t % 2 = 1
      · have := h t (pts_mem.mpr ⟨ht, hb⟩)
        simp [ht, hb, this]
      · simp [hb]
    · have : m / 2 ^ t = 0 := Nat.div_eq_of_lt (Nat.lt_of_lt_of_le (by omega : m < 2 ^ 8) (Nat.pow_le_pow_right (by omega) (by omega)))
      simp [this]
section MPACKED
variable {S : Hp} {mo : Nat} {σ : Sg} {q : Nat → Nat}
theorem MR_LH {g5 g6 : Nat → Int32} (hR : MR S mo q) : MR (LH S mo g5 g6) mo q := fun j hj => by
  rw [LH_g (by omega)]
  exact hR j hj
theorem LH_LH {g5 g6 h5 h6 : Nat → Int32} : LH (LH S mo g5 g6) mo h5 h6 = LH S mo h5 h6 := by
  unfold LH setA
  congr 3
  funext f' a' i'
  by_cases h6 : f' = 0 ∧ a' = mo + 6
  · rw [if_pos h6, if_pos h6]
  · rw [if_neg h6, if_neg h6]
    dsimp only
    by_cases h5 : f' = 0 ∧ a' = mo + 5
    · rw [if_pos h5, if_pos h5]
    · rw [if_neg h5, if_neg h5, if_neg h6, if_neg h5]
theorem pl_lt (hV : V q) {p s : Nat} (hp : p < q 93) (hs : s < qS q p) : q (98 + 3 * p) + s < 40 := by
  have := (hV.2.2.2.2.2.1 p hp).2.2
  have := hV.2.2.2.2.1.2.2
  unfold qS at hs
  omega
theorem qS_le (hV : V q) {p : Nat} (hp : p < q 93) : qS q p ≤ 12 := by
  have h := hV.2.2.2.2.2.1 p hp
  exact stN_le h.1.2 h.2.1.1
theorem m_fewest {p : Nat} {Q : Int32 → Prop} (hM : MK S mo) (hR : MR S mo q) (hV : V q) (hp : p < q 93) (h : Q (nI (fwS q p 8 (qS q p)))) : wp_X12_fewest mo (nI p) S Q := by
  have h8 := hV.2.2.2.2.1
  have hq := qS_le hV hp
  refine Lp_for (fun s => (nI (fwS q p 8 s), nI s)) (qS q p) (fun s hs K hK => ?_) (fun K => ?_) (i := 0) (Nat.zero_le _)
  · have hpl := pl_lt hV hp hs
    have hlt := hmS_lt q (q (98 + 3 * p) + s) (q 94)
    have hpow : 2 ^ q 94 ≤ 2 ^ 8 := Nat.pow_le_pow_right (by omega) h8.2.1
    have hf8 := fwS_m (q := q) (p := p) (m := 8) s
    have hl := hol_le q (q (98 + 3 * p) + s) (q 94)
    refine ⟨hM.1, m_packedStripes hM hR hV hp ⟨fun hc => ?_, fun _ => ⟨hM.1, m_packedFirst hM hR (by omega) ⟨hM.1, ?_⟩⟩⟩⟩
    · dsimp only at hc
      rw [nI_leI (by omega) (by omega)] at hc
      omega
    · dsimp only
      rw [nI_add]
      refine m_holders hM hR hV (by omega) (m_ones (by omega) ?_)
      rw [ones_hm h8.2.1]
      refine ⟨fun hc => ?_, fun hc => ?_⟩
      · rw [nI_leI (by omega) (by omega)] at hc
        rintro _ rfl
        rw [nI_1]
        rw [fwS, Nat.min_eq_left hc] at hK
        exact hK
      · rw [nI_leI (by omega) (by omega)] at hc
        rintro _ rfl
        rw [nI_1]
        rw [fwS, Nat.min_eq_right (by omega)] at hK
        exact hK
  · refine ⟨hM.1, m_packedStripes hM hR hV hp ⟨fun _ => h, fun hc => absurd (nI_le (Nat.le_refl _) (by omega)) hc⟩⟩
/-- the curve through the first holders -/
theorem M_first {i k : Nat} {Q : Hp → Prop} (hM : MK S mo) (hR : MR S mo q) (hV : V q) (hi : i < 40) (hk : k ≤ (hol q i (q 94)).length) (h : ∀ (g5 g6 : Nat → Int32) (c : Nat → Nat), (∀ j, j < k → c j = thrC q i k j) → (∀ j, j < 8 → c j < 29) → (∀ j, k ≤ j → c j = 0) → (∀ j, j < 8 → g5 j = nI (c j)) → Q (LH S mo g5 g6)) : wp_X12_lays mo (nI i) (nI (frN (hmS q i (q 94)) k)) S Q := by
  have h8 := hV.2.2.2.2.1
  have hlt := hmS_lt q i (q 94)
  have hpow : 2 ^ q 94 ≤ 2 ^ 8 := Nat.pow_le_pow_right (by omega) h8.2.1
  have hl := hol_le q i (q 94)
  obtain ⟨-, f2, f3⟩ := fr_ok (hmS q i (q 94)) (by omega) k (by omega)
  have ho : onesS (frN (hmS q i (q 94)) k) 8 = k := by
    rw [← pts_len, f2, List.length_take, hm_pts h8.2.1]
    omega
  refine M_lays hM hR hV hi f3 ho fun g5 g6 c hth hc0 hg => ?_
  rw [f2, hm_pts h8.2.1] at hth
  refine h g5 g6 c (thrC_eq h8.2.1 hk hth) (fun j _ => ?_) hc0 hg
  rcases Nat.lt_or_ge j k with hjk | hjk
  · exact hth.1 j hjk
  · rw [hc0 j hjk]
    decide
theorem m_firsts2 {i k : Nat} {Q : Int32 → Prop} (hV : V q) (hk : k ≤ 8) (h : Q (nI (frN (hmS q i (q 94)) k))) : wp_X12_firsts (nI (hmS q i (q 94))) (nI k) S Q := by
  have h8 := hV.2.2.2.2.1
  have hlt := hmS_lt q i (q 94)
  have hpow : 2 ^ q 94 ≤ 2 ^ 8 := Nat.pow_le_pow_right (by omega) h8.2.1
  exact m_firsts (by omega) (by omega) h
theorem M_isDoubted {p : Nat} {Q : Int32 → Hp → Prop} (hM : MK S mo) (hR : MR S mo q) (hV : V q) (hp : p < q 93) (hk : q (97 + 3 * p) ≤ fwS q p 8 (qS q p)) (h1 : ∀ g5 g6, (∃ s, s < qS q p ∧ Dbt q p s) → Q 1 (LH S mo g5 g6)) (h0 : ∀ g5 g6, (¬ ∃ s, s < qS q p ∧ Dbt q p s) → Q 0 (LH S mo g5 g6)) : wp_X12_isDoubted mo (nI p) S Q := by
  have h8 := hV.2.2.2.2.1
  have hq := qS_le hV hp
  have hv := hV.2.2.2.2.2.1 p hp
  have hpow : 2 ^ q 94 ≤ 2 ^ 8 := Nat.pow_le_pow_right (by omega) h8.2.1
  refine Lp_of (fun n y => ∃ s v g5 g6, s ≤ qS q p ∧ n = qS q p - s ∧ y = (v, nI s, LH S mo g5 g6) ∧ ((v = 0 ∧ ∀ s', s' < s → ¬ Dbt q p s') ∨ (v = 1 ∧ ∃ s', s' < s ∧ Dbt q p s'))) (fun n y hy K hK => ?_) (n := qS q p) (x := (0, nI 0, S)) ⟨0, 0, gI S 0 (mo + 5), gI S 0 (mo + 6), by omega, rfl, by rw [LH_self], Or.inl ⟨rfl, fun s' hs' => by omega⟩⟩
  obtain ⟨s, v, g5, g6, hs, rfl, rfl, hv01⟩ := hy
  have hM' : MK (LH S mo g5 g6) mo := hM
  refine ⟨hM.1, m_packedStripes hM' (MR_LH hR) hV hp ⟨fun hc => ?_, fun hc => ⟨hM.1, m_packedFirst hM' (MR_LH hR) (by omega) ?_⟩⟩⟩
  · dsimp only at hc ⊢
    rw [nI_leI (by omega) (by omega)] at hc
    obtain rfl : s = qS q p := by omega
    rcases hv01 with ⟨rfl, hn⟩ | ⟨rfl, hd⟩
    · exact ⟨Or.inl rfl, h0 g5 g6 fun w => hn _ w.choose_spec.1 w.choose_spec.2⟩
    · exact ⟨Or.inr rfl, h1 g5 g6 hd⟩
  · dsimp only at hc ⊢
    rw [nI_leI (by omega) (by omega)] at hc
    rintro _ rfl
    have hpl := pl_lt hV hp (s := s) (by omega)
    have hkl := Nat.le_trans hk (fwS_le (qS q p) s (by omega))
    have hlt := hmS_lt q (q (98 + 3 * p) + s) (q 94)
    rw [nI_add]
    refine ⟨hM.1, m_holders hM' (MR_LH hR) hV (by omega) ⟨hM.1, m_packedNeed hM' (MR_LH hR) (by omega) (m_firsts2 hV (by omega) ⟨hM.1, M_first hM' (MR_LH hR) hV hpl hkl fun h5 h6 c hct hc29 hc0 hg => ?_⟩)⟩⟩
    rw [LH_LH]
    have go : ∀ v2 : Int32, ((v2 = 0 ∧ ∀ s', s' < s + 1 → ¬ Dbt q p s') ∨ (v2 = 1 ∧ ∃ s', s' < s + 1 ∧ Dbt q p s')) → wp_X12_isDoubted_68 (fun w0 w1 w2 => K (w0, w1, w2)) Q mo (nI p) (nI s) v2 (LH S mo h5 h6) := by
      intro v2 hv2
      rintro _ rfl
      rw [nI_1]
      exact hK _ (qS q p - (s + 1)) (by omega) ⟨s + 1, v2, h5, h6, by omega, rfl, rfl, hv2⟩
    have hdb : Dbt q p s ↔ ¬ mkS (fun t => decide (hmS q (q (98 + 3 * p) + s) (q 94) / 2 ^ t % 2 = 1) && decide (at29 c 8 (t + 1) = yv q (q (98 + 3 * p) + s) t)) 8 = hmS q (q (98 + 3 * p) + s) (q 94) := by
      rw [mk_all (by omega), hm_pts h8.2.1]
      unfold Dbt
      refine not_congr (forall_congr' fun t => forall_congr' fun _ => ?_)
      rw [at29_tail (by omega) (fun j a _ => hc0 j a), at29_cg hct, decide_eq_true_iff]
    refine ⟨fun hv0 => ?_, fun hv0 => ⟨hM.1, ?_⟩⟩
    · refine go 1 (Or.inr ⟨rfl, ?_⟩)
      rcases hv01 with ⟨rfl, -⟩ | ⟨rfl, s', hs', hd⟩
      · exact absurd rfl hv0
      · exact ⟨s', by omega, hd⟩
    · have hn : ∀ s', s' < s → ¬ Dbt q p s' := by
        rcases hv01 with ⟨rfl, hn⟩ | ⟨rfl, -⟩
        · exact hn
        · exact absurd hv0 (by decide)
      refine m_on (S := LH S mo h5 h6) hM (MR_LH hR) hV hpl (by omega) (fun j hj => by rw [LH_g5]; exact hg j hj) hc29 ?_
      have hmk := mkS_lt (fun t => decide (hmS q (q (98 + 3 * p) + s) (q 94) / 2 ^ t % 2 = 1) && decide (at29 c 8 (t + 1) = yv q (q (98 + 3 * p) + s) t)) 8
      rw [nI_eq (by omega) (by omega)]
      refine ⟨fun he => go 0 (Or.inl ⟨rfl, fun s' hs' => ?_⟩), fun he => go 1 (Or.inr ⟨rfl, s, by omega, hdb.mpr he⟩)⟩
      by_cases e : s' = s
      · subst e
        exact fun w => hdb.mp w he
      · exact hn s' (by omega)
theorem M_stateOf {p : Nat} {Q : Int32 → Hp → Prop} (hM : MK S mo) (hR : MR S mo q) (hV : V q) (hp : p < q 93) (h : ∀ g5 g6, Q (nI (stS q p)) (LH S mo g5 g6)) : wp_X12_stateOf mo (nI p) S Q := by
  have h8 := hV.2.2.2.2.1
  have hv := hV.2.2.2.2.2.1 p hp
  have hf8 := fwS_m (q := q) (p := p) (m := 8) (qS q p)
  refine ⟨hM.1, m_fewest hM hR hV hp ⟨hM.1, m_packedNeed hM hR (by omega) ⟨fun hc => ⟨hM.1, ?_⟩, fun hc => ?_⟩⟩⟩
  · rw [nI_leI (by omega) (by omega)] at hc
    refine M_isDoubted hM hR hV hp hc (fun g5 g6 hd => ⟨fun w => absurd w (by decide), fun _ => ?_⟩) (fun g5 g6 hd => ⟨fun _ => ?_, fun w => absurd rfl w⟩)
    · have e : stS q p = 2 := by
        unfold stS
        rw [if_neg (by omega), cI_pos hd]
      have := h g5 g6
      rw [e] at this
      exact this
    · have e : stS q p = 1 := by
        unfold stS
        rw [if_neg (by omega), cI_neg hd]
      have := h g5 g6
      rw [e] at this
      exact this
  · rw [nI_leI (by omega) (by omega)] at hc
    have e : stS q p = 0 := by
      unfold stS
      rw [if_pos (by omega)]
    have := h (gI S 0 (mo + 5)) (gI S 0 (mo + 6))
    rw [e, LH_self] at this
    exact this
theorem ogS_le (k : Nat) : ∀ s, ogS k s ≤ s
  | 0 => Nat.le_refl 0
  | s + 1 => by
    have := ogS_le k s
    unfold ogS
    split <;> omega
theorem m_opening {p : Nat} {Q : Int32 → Prop} (hM : MK S mo) (hR : MR S mo q) (hV : V q) (hp : p < q 93) (h : Q (nI (ogS (q (97 + 3 * p)) (2 ^ q 94)))) : wp_X12_opening mo (nI p) S Q := by
  have h8 := hV.2.2.2.2.1
  have hv := hV.2.2.2.2.2.1 p hp
  have hpow : 2 ^ q 94 ≤ 2 ^ 8 := Nat.pow_le_pow_right (by omega) h8.2.1
  refine Lp_for (fun s => (nI (ogS (q (97 + 3 * p)) s), nI s)) (2 ^ q 94) (fun s hs K hK => ?_) (fun K => ?_) (i := 0) (Nat.zero_le _)
  · refine m_rd 94 hM li_94 (by omega) ?_
    rw [m_rv 94 hR li_94 (by omega), shl_nI (by omega)]
    have ho := onesS_le s 8
    refine ⟨fun hc => ?_, fun _ => m_ones (by omega) ⟨hM.1, m_packedNeed hM hR (by omega) ⟨fun hc => ?_, fun hc => ?_⟩⟩⟩
    · dsimp only at hc
      rw [nI_leI (by omega) (by omega)] at hc
      omega
    · rw [nI_ltI (by omega) (by omega)] at hc
      rintro _ rfl _ rfl
      dsimp only
      rw [li_0, nI_add, nI_1]
      rw [ogS, if_neg (by omega)] at hK
      exact hK
    · rw [nI_ltI (by omega) (by omega)] at hc
      rintro _ rfl _ rfl
      dsimp only
      rw [nI_1, nI_1]
      rw [ogS, if_pos (by omega)] at hK
      exact hK
  · refine m_rd 94 hM li_94 (by omega) ?_
    rw [m_rv 94 hR li_94 (by omega), shl_nI (by omega)]
    exact ⟨fun _ => h, fun hc => absurd (nI_le (Nat.le_refl _) (by omega)) hc⟩
theorem M_packed {Q : Int32 → Hp → Prop} {x w : Int32} (hS : MS S mo σ) (hV : V σ.1) (h : ∀ S', MS S' mo σ → SO mo S S' → Q (oPacked σ.1 x w) S') : wp_X12_packed mo x w S Q := by
  have h8 := hV.2.2.2.2.1
  unfold oPacked at h
  refine ⟨hS.1.1, m_isPacked hS.1 hS.2.1 h8.1 (fun p hp hx => ⟨fun _ => ?_, fun w => absurd w (by decide)⟩) (fun hn => ⟨fun w => absurd rfl w, fun _ => ?_⟩)⟩
  · subst hx
    rw [if_pos ((okN_nI (by omega)).mpr hp), tn_nI (by omega)] at h
    have e96 : (96 : Int32) + 3 * nI p = nI (96 + 3 * p) := by rw [li_96, li_3, pk_mul, nI_add]
    refine ⟨fun e0 => ⟨hS.1.1, M_stateOf hS.1 hS.2.1 hV hp fun g5 g6 => ?_⟩, fun e0 => ⟨fun e1 => ⟨hS.1.1, m_packedNeed hS.1 hS.2.1 (by omega) ?_⟩, fun e1 => ⟨fun e2 => m_rd _ hS.1 e96 (by omega) ?_, fun e2 => ⟨fun e3 => ⟨hS.1.1, m_packedFirst hS.1 hS.2.1 (by omega) ?_⟩, fun e3 => ⟨fun e4 => ⟨hS.1.1, m_fewest hS.1 hS.2.1 hV hp ?_⟩, fun e4 => ⟨fun e5 => ⟨hS.1.1, m_opening hS.1 hS.2.1 hV hp ?_⟩, fun e5 => ?_⟩⟩⟩⟩⟩⟩
    · rw [if_pos e0] at h
      exact h _ (MS_LH hS) (LH_so _ _)
    · rw [if_neg e0, if_pos e1] at h
      exact h S hS (SO_rf mo S)
    · rw [if_neg e0, if_neg e1, if_pos e2] at h
      rw [m_rv _ hS.2.1 e96 (by omega)]
      exact h S hS (SO_rf mo S)
    · rw [if_neg e0, if_neg e1, if_neg e2, if_pos e3] at h
      exact h S hS (SO_rf mo S)
    · rw [if_neg e0, if_neg e1, if_neg e2, if_neg e3, if_pos e4] at h
      exact h S hS (SO_rf mo S)
    · rw [if_neg e0, if_neg e1, if_neg e2, if_neg e3, if_neg e4, if_pos e5] at h
      exact h S hS (SO_rf mo S)
    · rw [if_neg e0, if_neg e1, if_neg e2, if_neg e3, if_neg e4, if_neg e5] at h
      exact h S hS (SO_rf mo S)
  · rw [if_neg (fun w => hn (okN_vp.mpr w))] at h
    exact h S hS (SO_rf mo S)
theorem dv_lt {l k i : Nat} (hk : 1 ≤ k) (hi : i < l) : i / k < stN l k := by
  unfold stN
  rw [Nat.div_lt_iff_lt_mul hk]
  have h1 := Nat.div_add_mod (l + k - 1) k
  have h2 := Nat.mod_lt (l + k - 1) hk
  rw [Nat.mul_comm] at h1
  omega
theorem pk_rem2 (i k : Nat) : nI i - nI (i / k) * nI k = nI (i % k) := by
  rw [pk_mul, pk_sub (Nat.div_mul_le_self i k)]
  congr 1
  have := Nat.div_add_mod i k
  rw [Nat.mul_comm] at this
  omega
theorem M_read {Q : Int32 → Hp → Prop} {x y : Int32} (hS : MS S mo σ) (hV : V σ.1) (h : ∀ S', MS S' mo σ → SO mo S S' → Q (oRead σ.1 x y) S') : wp_X12_read mo x y S Q := by
  have h8 := hV.2.2.2.2.1
  unfold oRead at h
  refine ⟨hS.1.1, m_isPacked hS.1 hS.2.1 h8.1 (fun p hp hx => ⟨fun w => absurd w (by decide), fun _ => ?_⟩) (fun hn => ⟨fun _ => ?_, fun w => absurd rfl w⟩)⟩
  · subst hx
    rw [tn_nI (by omega)] at h
    have hv := hV.2.2.2.2.2.1 p hp
    have e96 : (96 : Int32) + 3 * nI p = nI (96 + 3 * p) := by rw [li_96, li_3, pk_mul, nI_add]
    refine m_rd _ hS.1 e96 (by omega) ?_
    rw [m_rv _ hS.2.1 e96 (by omega)]
    refine m_inN (by omega) (fun i hi hx => ⟨fun _ => ⟨hS.1.1, m_packedNeed hS.1 hS.2.1 (by omega) ⟨hS.1.1, m_packedFirst hS.1 hS.2.1 (by omega) ⟨nI_ne0 hv.2.1.1 (by omega), ?_⟩⟩⟩, fun w => absurd w (by decide)⟩) (fun hn => ⟨fun w => absurd rfl w, fun _ => ?_⟩)
    · subst hx
      rw [if_pos ⟨(okN_nI (by omega)).mpr hp, (okN_nI (by omega)).mpr hi⟩, tn_nI (by omega)] at h
      have hd := dv_lt hv.2.1.1 hi
      have hpl := pl_lt hV hp hd
      have hrm : i % σ.1 (97 + 3 * p) < σ.1 (97 + 3 * p) := Nat.mod_lt _ hv.2.1.1
      rw [pk_div (by omega) hv.2.1.1 (by omega), nI_add]
      rintro _ rfl
      have hlt := hmS_lt σ.1 (σ.1 (98 + 3 * p) + i / σ.1 (97 + 3 * p)) (σ.1 94)
      have hpow : 2 ^ σ.1 94 ≤ 2 ^ 8 := Nat.pow_le_pow_right (by omega) h8.2.1
      have hl := hol_le σ.1 (σ.1 (98 + 3 * p) + i / σ.1 (97 + 3 * p)) (σ.1 94)
      refine ⟨hS.1.1, m_holders hS.1 hS.2.1 hV (by omega) (m_ones (by omega) ?_)⟩
      rw [ones_hm h8.2.1, nI_leI (by omega) (by omega)]
      refine ⟨fun hc => m_firsts2 hV (by omega) ⟨hS.1.1, M_first hS.1 hS.2.1 hV hpl hc fun g5 g6 c hct hc29 hc0 hg => ?_⟩, fun hc => ?_⟩
      · rw [if_pos hc] at h
        obtain ⟨k0, -, -, -, -, ⟨r5, k5, l5⟩, -⟩ := id hS.1
        refine ⟨k0, nI_ne0 hv.2.1.1 (by omega), _, r5, k5, ?_, ?_⟩
        · rw [pk_rem2]
          show vp_in _ (ln S (mo + 5))
          rw [l5]
          exact vp_li (by omega) (by omega)
        · rw [pk_rem2, nI_clamp (by omega), LH_g5, hg _ (by omega), hct _ hrm]
          exact h _ (MS_LH hS) (LH_so _ _)
      · rw [if_neg hc] at h
        exact h S hS (SO_rf mo S)
    · rw [if_neg (fun w => hn (okN_vp.mpr w.2))] at h
      exact h S hS (SO_rf mo S)
  · rw [if_neg (fun w => hn (okN_vp.mpr w.1))] at h
    exact h S hS (SO_rf mo S)
theorem M_mended {Q : Int32 → Hp → Prop} {x y : Int32} (hS : MS S mo σ) (hV : V σ.1) (h : ∀ S', MS S' mo σ → SO mo S S' → Q (oMended σ.1 x y) S') : wp_X12_mended mo x y S Q := by
  have h8 := hV.2.2.2.2.1
  unfold oMended at h
  refine ⟨hS.1.1, m_isPacked hS.1 hS.2.1 h8.1 (fun p hp hx => ⟨fun w => absurd w (by decide), fun _ => ?_⟩) (fun hn => ⟨fun _ => ?_, fun w => absurd rfl w⟩)⟩
  · subst hx
    rw [tn_nI (by omega)] at h
    have hv := hV.2.2.2.2.2.1 p hp
    have e96 : (96 : Int32) + 3 * nI p = nI (96 + 3 * p) := by rw [li_96, li_3, pk_mul, nI_add]
    refine m_rd _ hS.1 e96 (by omega) ?_
    rw [m_rv _ hS.2.1 e96 (by omega)]
    refine m_inN (by omega) (fun i hi hx => ⟨fun _ => ⟨hS.1.1, m_packedNeed hS.1 hS.2.1 (by omega) ⟨hS.1.1, m_packedFirst hS.1 hS.2.1 (by omega) ⟨nI_ne0 hv.2.1.1 (by omega), ?_⟩⟩⟩, fun w => absurd w (by decide)⟩) (fun hn => ⟨fun w => absurd rfl w, fun _ => ?_⟩)
    · subst hx
      rw [if_pos ⟨(okN_nI (by omega)).mpr hp, (okN_nI (by omega)).mpr hi⟩, tn_nI (by omega)] at h
      have hd := dv_lt hv.2.1.1 hi
      have hpl := pl_lt hV hp hd
      have hrm : i % σ.1 (97 + 3 * p) < σ.1 (97 + 3 * p) := Nat.mod_lt _ hv.2.1.1
      rw [pk_div (by omega) hv.2.1.1 (by omega), nI_add]
      rintro _ rfl
      have hlt := hmS_lt σ.1 (σ.1 (98 + 3 * p) + i / σ.1 (97 + 3 * p)) (σ.1 94)
      have hpow : 2 ^ σ.1 94 ≤ 2 ^ 8 := Nat.pow_le_pow_right (by omega) h8.2.1
      have hl := hol_le σ.1 (σ.1 (98 + 3 * p) + i / σ.1 (97 + 3 * p)) (σ.1 94)
      refine ⟨hS.1.1, m_holders hS.1 hS.2.1 hV (by omega) (m_ones (by omega) ?_)⟩
      rw [ones_hm h8.2.1, nI_leI (by omega) (by omega)]
      refine ⟨fun hc => ⟨hS.1.1, M_mends hS.1 hS.2.1 hV hpl hv.2.1.1 hc (fun g5 g6 c hcm hc0 hg => ⟨fun w => absurd w (by decide), fun _ => ?_⟩) (fun g5 g6 hno => ⟨fun _ => ?_, fun w => absurd rfl w⟩)⟩, fun hc => ?_⟩
      · rw [if_pos hc, cI_pos ⟨c, hcm⟩] at h
        obtain ⟨k0, -, -, -, -, ⟨r5, k5, l5⟩, -⟩ := id hS.1
        refine ⟨k0, nI_ne0 hv.2.1.1 (by omega), _, r5, k5, ?_, ?_⟩
        · rw [pk_rem2]
          show vp_in _ (ln S (mo + 5))
          rw [l5]
          exact vp_li (by omega) (by omega)
        · rw [pk_rem2, nI_clamp (by omega), LH_g5, hg _ (by omega), mndC_eq h8.2.1 hc hcm _ hrm]
          exact h _ (MS_LH hS) (LH_so _ _)
      · rw [if_pos hc, cI_neg (P := Mdd _ _ _) hno] at h
        exact h _ (MS_LH hS) (LH_so _ _)
      · rw [if_neg hc] at h
        exact h S hS (SO_rf mo S)
    · rw [if_neg (fun w => hn (okN_vp.mpr w.2))] at h
      exact h S hS (SO_rf mo S)
  · rw [if_neg (fun w => hn (okN_vp.mpr w.1))] at h
    exact h S hS (SO_rf mo S)
end MPACKED
