section CREAD
variable {S : Hp} {x : Nat} {σ : Sg} {q : Nat → Nat} {wd : Nat → Prop} {lo la : Nat}
theorem c_stripesFor {l k : Nat} {Q : Int32 → Prop} (hl : l ≤ 12) (h1 : 1 ≤ k) (h8 : k ≤ 8) (h : Q (nI (stN l k))) : wp_X11_stripesFor (nI l) (nI k) S Q := by
  refine ⟨fun _ => ⟨nI_ne0 h1 (by omega), ?_⟩, fun hc => absurd (nI_le (a := 1) h1 (by omega)) hc⟩
  rw [li_1, nI_add, pk_sub (by omega), pk_div (by omega) h1 (by omega)]
  exact h
theorem c_stripes {a w l k : Nat} {Q : Int32 → Prop} (h6 : kd S a = 6) (hw : AR S 81 a w 20 l) (hk : gI S 82 a 0 = nI k) (hl : l ≤ 12) (h1 : 1 ≤ k) (h8 : k ≤ 8) (h : Q (nI (stN l k))) : wp_X5_stripes a S Q := by
  refine ⟨h6, w, hw.1, hw.2.1, h6, ?_⟩
  rw [hw.2.2, hk, of_nI]
  exact c_stripesFor hl h1 h8 h
theorem c_hasLetter {a w l : Nat} {i : Int32} {Q : Int32 → Prop} (h6 : kd S a = 6) (hw : AR S 81 a w 20 l) (hl : l ≤ 12) (h1 : ∀ j, j < l → i = nI j → Q 1) (h0 : ¬ vp_in i l → Q 0) : wp_X5_hasLetter a i S Q := by
  refine ⟨h6, w, hw.1, hw.2.1, ?_⟩
  rw [hw.2.2, of_nI]
  exact c_withinN (by omega) (fun j hj hx => ⟨Or.inr rfl, h1 j hj hx⟩) (fun h => ⟨Or.inl rfl, h0 h⟩)
theorem len63 {p : Nat} (hp : p < 6) : lenS q 63 (p + 1) = lenS q 63 p + sP q p := by
  have : (63 / 2 ^ p % 2) = 1 := by
    have : p = 0 ∨ p = 1 ∨ p = 2 ∨ p = 3 ∨ p = 4 ∨ p = 5 := by omega
    rcases this with rfl | rfl | rfl | rfl | rfl | rfl <;> rfl
  rw [lenS, if_pos this]
theorem C_length {Q : Int32 → Prop} (h3 : kd S la = 3) (h33 : AR S 33 la (la + 1) 23 6) (hL : LineAt S wd lo la q) (hV : V q) (h : Q (nI (lenS q 63 (q 2)))) : wp_X2_length la S Q := by
  have h6 := hV.2.2.1
  refine Lp_for (fun i => (nI (lenS q 63 i), nI i)) (q 2) (fun i hi K hK => ?_) (fun K => ?_) (i := 0) (by omega)
  · obtain ⟨a, ha, p0, p1, p2, p3, w, p4, p5, p6, p7⟩ := hL.2.2 i hi
    have hv := hV.2.2.2.1 i hi
    refine ⟨h3, fun hc => ?_, fun _ => ⟨h3, _, h33.1, h33.2.1, by rw [h33.2.2]; exact vp_li (by omega) (by omega), a, by rw [nI_clamp (by omega)]; exact ha, p1, c_stripes p1 p6 p2 hv.1.2 hv.2.1.1 hv.2.1.2 ?_⟩⟩
    · dsimp only at hc
      rw [hL.1.1, nI_leI (by omega) (by omega)] at hc
      omega
    · rintro _ rfl _ rfl
      dsimp only
      rw [nI_add, nI_1]
      rw [len63 (by omega)] at hK
      exact hK
  · refine ⟨h3, fun _ => h, fun hc => ?_⟩
    rw [hL.1.1] at hc
    exact absurd (nI_le (Nat.le_refl _) (by omega)) hc
theorem C_cost {Q : Int32 → Prop} (h3 : kd S la = 3) (h33 : AR S 33 la (la + 1) 23 6) (hL : LineAt S wd lo la q) (hV : V q) (h : Q (nI (costS q (q 2)))) : wp_X2_cost la S Q := by
  have h6 := hV.2.2.1
  refine Lp_for (fun i => (nI (costS q i), nI i)) (q 2) (fun i hi K hK => ?_) (fun K => ?_) (i := 0) (by omega)
  · obtain ⟨a, ha, p0, p1, p2, p3, w, p4, p5, p6, p7⟩ := hL.2.2 i hi
    have hv := hV.2.2.2.1 i hi
    refine ⟨h3, fun hc => ?_, fun _ => ⟨h3, _, h33.1, h33.2.1, by rw [h33.2.2]; exact vp_li (by omega) (by omega), a, by rw [nI_clamp (by omega)]; exact ha, p1, h3, _, h33.1, h33.2.1, by rw [h33.2.2]; exact vp_li (by omega) (by omega), a, by rw [nI_clamp (by omega)]; exact ha, p1, ?_⟩⟩
    · dsimp only at hc
      rw [hL.1.1, nI_leI (by omega) (by omega)] at hc
      omega
    · rintro _ rfl _ rfl
      dsimp only
      rw [p2, p3, pk_mul, nI_add, nI_1]
      exact hK
  · refine ⟨h3, fun _ => h, fun hc => ?_⟩
    rw [hL.1.1] at hc
    exact absurd (nI_le (Nat.le_refl _) (by omega)) hc
theorem ndLe_iff : ∀ n, ndLe q n = true ↔ ∀ i, i < n → q (4 + 15 * i) ≤ q 0
  | 0 => ⟨fun _ i hi => by omega, fun _ => rfl⟩
  | n + 1 => by
    have ih := ndLe_iff n
    show (ndLe q n && decide (q (4 + 15 * n) ≤ q 0)) = true ↔ _
    rw [Bool.and_eq_true, ih, decide_eq_true_iff]
    exact ⟨fun h i hi => by
      by_cases e : i = n
      · subst e
        exact h.2
      · exact h.1 i (by omega), fun h => ⟨fun i hi => h i (by omega), h n (by omega)⟩⟩
theorem C_fits {Q : Int32 → Prop} (h3 : kd S la = 3) (h33 : AR S 33 la (la + 1) 23 6) (hL : LineAt S wd lo la q) (hV : V q) (h : Q (bb (fitB q))) : wp_X2_fits la S Q := by
  have h6 := hV.2.2.1
  have hl := lenS_le hV 63 (q 2) (Nat.le_refl _)
  refine Lp_of (fun n y => ∃ i, i ≤ q 2 ∧ n = q 2 - i ∧ y = nI i ∧ ∀ j, j < i → q (4 + 15 * j) ≤ q 0) (fun n y hy K hK => ?_) (n := q 2) (x := nI 0) ⟨0, by omega, by omega, rfl, fun j hj => by omega⟩
  obtain ⟨i, hi, rfl, rfl, hb⟩ := hy
  refine ⟨h3, fun hc => ⟨h3, C_length h3 h33 hL hV ⟨h3, fun hd => ?_, fun hd => ?_⟩⟩, fun hc => ?_⟩
  · rw [hL.1.1, nI_leI (by omega) (by omega)] at hc
    have hv1 := hV.2.1
    rw [hL.1.2.2, nI_ltI (by omega) (by omega)] at hd
    have e : fitB q = false := by
      unfold fitB
      rw [decide_eq_false (by omega)]
      rfl
    rw [e] at h
    exact ⟨Or.inl rfl, h⟩
  · rw [hL.1.1, nI_leI (by omega) (by omega)] at hc
    have hv1 := hV.2.1
    rw [hL.1.2.2, nI_ltI (by omega) (by omega)] at hd
    have e : fitB q = true := by
      unfold fitB
      rw [decide_eq_true (by omega), (ndLe_iff (q 2)).mpr (fun j hj => hb j (by omega))]
      rfl
    rw [e] at h
    exact ⟨Or.inr rfl, h⟩
  · rw [hL.1.1, nI_leI (by omega) (by omega)] at hc
    obtain ⟨a, ha, p0, p1, p2, p3, w, p4, p5, p6, p7⟩ := hL.2.2 i (by omega)
    have hv := hV.2.2.2.1 i (by omega)
    have hv0 := hV.1
    refine ⟨h3, _, h33.1, h33.2.1, by rw [h33.2.2]; exact vp_li (by omega) (by omega), a, by rw [nI_clamp (by omega)]; exact ha, p1, h3, fun hd => ?_, fun hd => ?_⟩
    · rw [p2, hL.1.2.1, nI_leI (by omega) (by omega)] at hd
      rintro _ rfl
      rw [nI_1]
      refine hK _ (q 2 - (i + 1)) (by omega) ⟨i + 1, by omega, rfl, rfl, fun j hj => ?_⟩
      by_cases e : j = i
      · subst e
        exact hd
      · exact hb j (by omega)
    · rw [p2, hL.1.2.1, nI_leI (by omega) (by omega)] at hd
      have e : fitB q = false := by
        unfold fitB
        have : ndLe q (q 2) = false := by
          cases hc2 : ndLe q (q 2) with
          | false => rfl
          | true => exact absurd ((ndLe_iff (q 2)).mp hc2 i (by omega)) hd
        rw [this, Bool.and_false]
      rw [e] at h
      exact h
theorem C_weightWithin {s r : Nat} {Q : Int32 → Prop} (h3 : kd S la = 3) (h33 : AR S 33 la (la + 1) 23 6) (hL : LineAt S wd lo la q) (hV : V q) (hs : s < 2 ^ 20) (hr : r ≤ 40) (h : Q (if lenS q s (q 2) ≤ r then nI (wS q s (q 2)) else -1)) : wp_X2_weightWithin la (nI s) (nI r) S Q := by
  have h6 := hV.2.2.1
  have hl := lenS_le hV s (q 2) (Nat.le_refl _)
  refine Lp_for (fun i => (nI (lenS q s i), nI (wS q s i), nI i)) (q 2) (fun i hi K hK => ?_) (fun K => ?_) (i := 0) (by omega)
  · obtain ⟨a, ha, p0, p1, p2, p3, w, p4, p5, p6, p7⟩ := hL.2.2 i hi
    have hv := hV.2.2.2.1 i hi
    have hb := Nat.mod_two_eq_zero_or_one (s / 2 ^ i)
    refine ⟨h3, fun hc => ?_, fun _ => ⟨fun hc => ?_, fun hc => ⟨h3, _, h33.1, h33.2.1, by rw [h33.2.2]; exact vp_li (by omega) (by omega), a, by rw [nI_clamp (by omega)]; exact ha, p1, c_stripes p1 p6 p2 hv.1.2 hv.2.1.1 hv.2.1.2 ?_⟩⟩⟩
    · dsimp only at hc
      rw [hL.1.1, nI_leI (by omega) (by omega)] at hc
      omega
    · dsimp only at hc
      rw [bit_nI (by omega) (by omega), li_1, nI_ne (by omega) (by omega)] at hc
      rintro _ rfl
      dsimp only
      rw [nI_1]
      rw [lenS, if_neg hc, wS, if_neg hc, Nat.add_zero, Nat.add_zero] at hK
      exact hK
    · dsimp only at hc
      rw [bit_nI (by omega) (by omega), li_1, nI_eq (by omega) (by omega)] at hc
      rintro _ rfl
      refine ⟨h3, _, h33.1, h33.2.1, by rw [h33.2.2]; exact vp_li (by omega) (by omega), a, by rw [nI_clamp (by omega)]; exact ha, p1, ?_⟩
      rintro _ rfl _ rfl
      dsimp only
      rw [p3, nI_add, nI_add, nI_1]
      rw [lenS, if_pos hc, wS, if_pos hc] at hK
      exact hK
  · refine ⟨h3, fun _ => ⟨fun hd => ?_, fun hd => ?_⟩, fun hc => ?_⟩
    · dsimp only at hd
      rw [nI_ltI (by omega) (by omega)] at hd
      rw [if_neg (by omega)] at h
      exact h
    · dsimp only at hd
      rw [nI_ltI (by omega) (by omega)] at hd
      rw [if_pos (by omega)] at h
      exact h
    · rw [hL.1.1] at hc
      exact absurd (nI_le (Nat.le_refl _) (by omega)) hc
theorem C_lesser {Q : Int32 → Prop} {r : Int32} (hS : CS S x σ) (hV : V σ.1) (h : Q (oLesser σ.1 r)) : wp_X11_lesser x r S Q := by
  obtain ⟨hC, hz, ht, h01, bo, nx, wd, ⟨hb, hbo⟩, -, -, hL, hB, -⟩ := id hS
  obtain ⟨⟨f0, f1, f2, f3, f4, f5, f6⟩, -, -, ⟨i1, i2⟩, -⟩ := id hC
  generalize σ.1 = q at *
  have h6 := hV.2.2.1
  unfold oLesser at h
  refine c_withinB (a := 0) (b := 40) rfl rfl (by omega) (fun r _ hr hx => ⟨fun w => absurd w (by decide), fun _ => ⟨f0, _, f3, i1, ?_⟩⟩) (fun hn => ⟨fun _ => ?_, fun w => absurd rfl w⟩)
  · subst hx
    rw [if_pos ((okB_nI (by omega)).mpr ⟨by omega, hr⟩), tn_nI (by omega)] at h
    have hpow : 2 ^ q 2 ≤ 2 ^ 6 := Nat.pow_le_pow_right (by omega) h6
    refine Lp_for (fun s => (nI (lsB q r s).1, nI (lsB q r s).2, nI s)) (2 ^ q 2) (fun s hs K hK => ?_) (fun K => ?_) (i := 0) (Nat.zero_le _)
    · have hw := wS_le hV s (q 2) (Nat.le_refl _)
      have hlb := lsB_le hV (r := r) s
      refine ⟨i1, fun hc => ?_, fun _ => ⟨i1, C_weightWithin i1 i2 hL hV (by omega) hr ⟨fun hd => ?_, fun hd => ?_⟩⟩⟩
      · dsimp only at hc
        rw [hL.1.1, shl_nI (by omega), nI_leI (by omega) (by omega)] at hc
        omega
      · rintro _ rfl
        dsimp only at hd ⊢
        rw [nI_1]
        have e : lsB q r (s + 1) = lsB q r s := by
          rw [lsB]
          by_cases hl : lenS q s (q 2) ≤ r
          · rw [if_pos hl, nI_ltI (by omega) (by omega)] at hd
            rw [if_neg (by omega)]
          · rw [if_neg (fun w => hl w.1)]
        rw [e] at hK
        exact hK
      · rintro _ rfl
        dsimp only at hd ⊢
        rw [nI_1]
        by_cases hl : lenS q s (q 2) ≤ r
        · rw [if_pos hl, nI_ltI (by omega) (by omega)] at hd
          have e : lsB q r (s + 1) = (s, wS q s (q 2)) := by
            rw [lsB, if_pos ⟨hl, by omega⟩]
          rw [if_pos hl]
          rw [e] at hK
          exact hK
        · rw [if_neg hl] at hd
          refine absurd ?_ hd
          rw [Int32.lt_iff_toInt_lt, nI_toInt (by omega)]
          show (-1 : Int) < _
          omega
    · refine ⟨i1, fun _ => h, fun hc => ?_⟩
      rw [hL.1.1, shl_nI (by omega)] at hc
      exact absurd (nI_le (Nat.le_refl _) (by omega)) hc
  · rw [if_neg hn] at h
    exact h
theorem C_write {Q : Int32 → Hp → Prop} {n : Int32} (hS : CS S x σ) (hl : σ.2.2.2 ≤ 200) (h : ∀ S', CS S' x (oWrite σ n).2 → KO x S S' → Q (oWrite σ n).1 S') : wp_X11_write x n S Q := by
  obtain ⟨hC, hz, ht, h01, bo, nx, wd, ⟨hb, hbo⟩, ⟨hnx, h146, h147, hu⟩, hwk, hL, hB, hU⟩ := id hS
  obtain ⟨⟨f0, f1, f2, f3, f4, f5, f6⟩, ⟨t1, t2⟩, -⟩ := id hC
  unfold oWrite at h
  refine c_withinB (a := 0) (b := 255) rfl rfl (by omega) (fun j _ hj hx => ⟨fun _ => ⟨f0, _, f1, t1, t1, fun hc => ⟨t1, t1, _, t2.1, t2.2.1, ?_, ?_⟩, fun hc => ⟨fun _ => ?_, fun w => absurd rfl w⟩⟩, fun w => absurd w (by decide)⟩) (fun hn => ⟨fun w => absurd rfl w, fun _ => ?_⟩)
  · rw [ht.1, li_200, nI_ltI (by omega) (by omega)] at hc
    rw [ht.1, t2.2.2]
    exact vp_li (by omega) (by omega)
  · subst hx
    rw [if_pos ((okB_nI (by omega)).mpr ⟨by omega, hj⟩)] at h
    rw [ht.1, li_200, nI_ltI (by omega) (by omega)] at hc
    rw [if_neg (by omega)] at h
    rintro _ rfl
    refine ⟨t1, t1, ?_⟩
    rintro _ rfl
    refine ⟨fun w => absurd w (by decide), fun _ => ⟨f0, _, f1, t1, ?_⟩⟩
    have e1 : gI (sI S 0 (x + 2) (gI S 162 (x + 1) 0).toNatClampNeg (nI j)) 162 (x + 1) 0 = nI σ.2.2.2 := by rw [gI_sI, if_neg (by omega)]; exact ht.1
    rw [e1, ht.1, nI_clamp (by omega), nI_1]
    have e2 : gI (sI (sI S 0 (x + 2) σ.2.2.2 (nI j)) 162 (x + 1) 0 (nI (σ.2.2.2 + 1))) 162 (x + 1) 0 = nI (σ.2.2.2 + 1) := by simp [gI_sI]
    have hF : Fr (fun a => a ≠ x + 1 ∧ a ≠ x + 2) S (sI (sI S 0 (x + 2) σ.2.2.2 (nI j)) 162 (x + 1) 0 (nI (σ.2.2.2 + 1))) := Fr_tr (Fr_sI (fun w => w.2 rfl)) (Fr_sI (fun w => w.1 rfl))
    rw [e2]
    refine h _ ⟨hC, hz, ⟨e2, fun i hi => ?_⟩, fun i hi => ?_, bo, nx, wd, ⟨hb, hbo⟩, ⟨hnx, gI_fr hF ⟨by omega, by omega⟩ h146, gI_fr hF ⟨by omega, by omega⟩ h147, hu⟩, hwk, LineAt_fr hF (fun a _ _ _ => by omega) (fun _ w => w) (by omega) (by omega) hL, BoxAt_fr hF (fun a _ _ => by omega) (fun _ _ w => w) (fun a _ _ _ => by omega) hB, URel_fr _ nx S _ hF (fun a _ _ => by omega) (fun a _ _ _ => by omega) (fun i hi => by omega) (fun _ w => w) (fun _ _ w => w) hU⟩ (KO_tr (KO_sI (by omega)) (KO_sI (by omega)))
    · have hi' : i < σ.2.2.2 + 1 := hi
      show gI _ 0 (x + 2) i = nI (va_up σ.2.2.1 σ.2.2.2 (tn (nI j)) i)
      rw [tn_nI (by omega), gI_sI, if_neg (by omega), gI_sI]
      unfold va_up
      by_cases hil : i = σ.2.2.2
      · subst hil
        simp
      · simp [hil]
        exact ht.2 i (by omega)
    · rw [(hF.2 _ ⟨by omega, by omega⟩ 134 0).1]
      exact h01 i hi
  · subst hx
    rw [if_pos ((okB_nI (by omega)).mpr ⟨by omega, hj⟩)] at h
    rw [ht.1, li_200, nI_ltI (by omega) (by omega)] at hc
    rw [if_pos (by omega)] at h
    exact h S hS (KO_rf x S)
  · rw [if_neg hn] at h
    exact h S hS (KO_rf x S)
theorem CS_text {S' : Hp} (hS : CS S x σ) (hF : Fr (fun a => a ≠ x + 1 ∧ ¬ (x + 3 ≤ a ∧ a ≤ x + 28)) S S') (hk : ∀ a, kd S' a = kd S a ∧ ln S' a = ln S a) (hsz : sz S' = sz S) (hr : ∀ f a i, gR S' f a i = gR S f a i) (h : gI S' 162 (x + 1) 0 = nI 0) : CS S' x (σ.1, σ.2.1, σ.2.2.1, 0) := by
  obtain ⟨hC, hz, ht, h01, bo, nx, wd, ⟨hb, hbo⟩, ⟨hnx, h146, h147, hu⟩, hwk, hL, hB, hU⟩ := id hS
  refine ⟨CK_tr (fun a _ => hk a) (fun f a i _ _ => hr f a i) hC, ⟨fun a ha => by rw [(hk a).1]; exact hz.1 a (by omega), by omega⟩, ⟨h, fun i hi => absurd hi (Nat.not_lt_zero i)⟩, fun i hi => ?_, bo, nx, wd, ⟨(hr _ _ _).trans hb, hbo⟩, ⟨hnx, gI_fr hF ⟨by omega, by omega⟩ h146, gI_fr hF ⟨by omega, by omega⟩ h147, hu⟩, fun a ha => ((hk a).1).trans (hwk a ha), LineAt_fr hF (fun a _ _ _ => by omega) (fun _ w => w) (by omega) (by omega) hL, BoxAt_fr hF (fun a _ _ => by omega) (fun _ _ w => w) (fun a _ _ _ => by omega) hB, URel_fr _ nx S _ hF (fun a _ _ => by omega) (fun a _ _ _ => by omega) (fun i hi => by omega) (fun _ w => w) (fun _ _ w => w) hU⟩
  rw [(hF.2 _ ⟨by omega, by omega⟩ 134 0).1]
  exact h01 i hi
theorem C_erase {Q : Int32 → Hp → Prop} (hS : CS S x σ) (h : ∀ S', CS S' x (oErase σ).2 → KO x S S' → Q (oErase σ).1 S') : wp_X11_erase x S Q := by
  obtain ⟨hC, hz, ht, -⟩ := id hS
  obtain ⟨⟨f0, f1, f2, f3, f4, f5, f6⟩, ⟨t1, t2⟩, -⟩ := id hC
  refine ⟨f0, _, f1, t1, ?_⟩
  rintro _ rfl
  refine ⟨f0, _, f1, t1, ?_⟩
  rintro _ rfl
  rw [ht.1]
  exact h _ (CS_text hS (Fr_sI (fun w => w.1 rfl)) (fun _ => ⟨rfl, rfl⟩) rfl (fun _ _ _ => rfl) (by rw [gI_sI, if_pos ⟨rfl, rfl, rfl⟩]; rfl)) (KO_sI (by omega))
theorem C_part {Q : Int32 → Prop} {p w : Int32} (hS : CS S x σ) (hV : V σ.1) (h : Q (oPart σ.1 p w)) : wp_X11_part x p w S Q := by
  obtain ⟨hC, hz, ht, h01, bo, nx, wd, ⟨hb, hbo⟩, -, -, hL, hB, -⟩ := id hS
  obtain ⟨⟨f0, f1, f2, f3, f4, f5, f6⟩, -, -, ⟨i1, i2⟩, -⟩ := id hC
  generalize σ.1 = q at *
  have h6 := hV.2.2.1
  unfold oPart at h
  refine ⟨f0, _, f3, i1, c_has i1 hL.1.1 h6 (fun j hj hp => ⟨fun _ => ?_, fun w => absurd w (by decide)⟩) (fun hn => ⟨fun w => absurd rfl w, fun _ => ?_⟩)⟩
  · subst hp
    rw [if_pos ((okN_nI (by omega)).mpr hj), tn_nI (by omega)] at h
    obtain ⟨a, ha, p0, p1, p2, p3, w', p4, p5, p6, p7⟩ := hL.2.2 j hj
    have hv := hV.2.2.2.1 j hj
    refine ⟨f0, _, f3, i1, _, i2.1, i2.2.1, by rw [i2.2.2]; exact vp_li (by omega) (by omega), a, by rw [nI_clamp (by omega)]; exact ha, fun e => ?_, fun e => ⟨fun e1 => ?_, fun e1 => ⟨fun e2 => ?_, fun e2 => ⟨fun e3 => ?_, fun e3 => ?_⟩⟩⟩⟩
    · subst e
      rw [if_pos (by decide)] at h
      refine ⟨p1, _, p6.1, p6.2.1, ?_⟩
      rw [p6.2.2]
      exact h
    · subst e1
      rw [if_pos (by decide), show 3 + 15 * j + tn 1 = 4 + 15 * j by rw [show tn 1 = 1 from rfl]; omega] at h
      refine ⟨p1, ?_⟩
      rw [p2]
      exact h
    · subst e2
      rw [if_pos (by decide), show 3 + 15 * j + tn 2 = 5 + 15 * j by rw [show tn 2 = 2 from rfl]; omega] at h
      refine ⟨p1, ?_⟩
      rw [p3]
      exact h
    · subst e3
      rw [if_neg (by decide), if_pos rfl] at h
      exact ⟨p1, c_stripes p1 p6 p2 hv.1.2 hv.2.1.1 hv.2.1.2 h⟩
    · rw [if_neg (fun ww => ?_), if_neg e3] at h
      · exact h
      · obtain ⟨k, hk, rfl⟩ := bd_of ww.1 ww.2
        rw [okB_nI (by omega)] at ww
        have : k = 0 ∨ k = 1 ∨ k = 2 := by omega
        rcases this with rfl | rfl | rfl
        · exact e rfl
        · exact e1 rfl
        · exact e2 rfl
  · rw [if_neg (fun w => hn (okN_vp.mpr w))] at h
    exact h
theorem C_letter {Q : Int32 → Prop} {p i : Int32} (hS : CS S x σ) (hV : V σ.1) (h : Q (oLetter σ.1 p i)) : wp_X11_letter x p i S Q := by
  obtain ⟨hC, hz, ht, h01, bo, nx, wd, ⟨hb, hbo⟩, -, -, hL, hB, -⟩ := id hS
  obtain ⟨⟨f0, f1, f2, f3, f4, f5, f6⟩, -, -, ⟨i1, i2⟩, -⟩ := id hC
  generalize σ.1 = q at *
  have h6 := hV.2.2.1
  unfold oLetter at h
  refine ⟨f0, _, f3, i1, c_has i1 hL.1.1 h6 (fun j hj hp => ⟨fun w => absurd w (by decide), fun _ => ?_⟩) (fun hn => ⟨fun _ => ?_, fun w => absurd rfl w⟩)⟩
  · subst hp
    rw [tn_nI (by omega)] at h
    obtain ⟨a, ha, p0, p1, p2, p3, w', p4, p5, p6, p7⟩ := hL.2.2 j hj
    have hv := hV.2.2.2.1 j hj
    refine ⟨f0, _, f3, i1, _, i2.1, i2.2.1, by rw [i2.2.2]; exact vp_li (by omega) (by omega), a, by rw [nI_clamp (by omega)]; exact ha, p1, c_hasLetter p1 p6 hv.1.2 (fun k hk hx => ⟨fun _ => ?_, fun w => absurd w (by decide)⟩) (fun hn => ⟨fun w => absurd rfl w, fun _ => ?_⟩)⟩
    · subst hx
      rw [if_pos ⟨(okN_nI (by omega)).mpr hj, (okN_nI (by omega)).mpr hk⟩, tn_nI (by omega)] at h
      refine ⟨f0, _, f3, i1, _, i2.1, i2.2.1, by rw [i2.2.2]; exact vp_li (by omega) (by omega), a, by rw [nI_clamp (by omega)]; exact ha, p1, w', p6.1, p6.2.1, by rw [p6.2.2]; exact vp_li hk (by omega), ?_⟩
      rw [nI_clamp (by omega), p7 k hk]
      exact h
    · rw [if_neg (fun w => hn (okN_vp.mpr w.2))] at h
      exact h
  · rw [if_neg (fun w => hn (okN_vp.mpr w.1))] at h
    exact h
theorem C_number {Q : Int32 → Prop} {t i : Int32} (hS : CS S x σ) (hV : V σ.1) (h : Q (oNumber σ.1 t i)) : wp_X11_number x t i S Q := by
  obtain ⟨hC, hz, ht, h01, bo, nx, wd, ⟨hb, hbo⟩, -, -, hL, hB, -⟩ := id hS
  obtain ⟨⟨f0, f1, f2, f3, f4, f5, f6⟩, -⟩ := id hC
  generalize σ.1 = q at *
  have h8 := hV.2.2.2.2.1
  unfold oNumber at h
  obtain ⟨g0, ⟨g1, g2, g3, g4⟩, g5, g6, ⟨g7, g7', g7''⟩, g8, g9⟩ := id hB
  refine ⟨f0, _, hb, g1, c_hasPacket g1 g3 h8.2.1 (fun j hj hp => ⟨fun w => absurd w (by decide), fun _ => ?_⟩) (fun hn => ⟨fun _ => ?_, fun w => absurd rfl w⟩)⟩
  · subst hp
    rw [tn_nI (by omega)] at h
    have hv := hV.2.2.2.2.2.2.1 j (by omega)
    obtain ⟨⟨b1, b2, b3, b4, b5⟩, b6, b7, b8⟩ := g9 j hj
    refine ⟨f0, _, hb, g1, ?_⟩
    rw [g4]
    refine c_withinN (by omega) (fun k hk hx => ⟨fun _ => ?_, fun w => absurd w (by decide)⟩) (fun hn => ⟨fun w => absurd rfl w, fun _ => ?_⟩)
    · subst hx
      rw [if_pos ⟨(okN_nI (by omega)).mpr hj, (okN_nI (by omega)).mpr hk⟩, tn_nI (by omega)] at h
      refine ⟨f0, _, hb, g1, _, g7, g7', by rw [g7'']; exact vp_li hj (by omega), _, by rw [nI_clamp (by omega)]; exact b1, b2, c_holds b2 b6 b7 (by omega) (by omega) (fun k2 hk2 hx hz0 => ⟨fun w => absurd w (by decide), fun _ => ?_⟩) (fun hn => ⟨fun _ => ?_, fun w => absurd rfl w⟩)⟩
      · obtain rfl : k = k2 := nI_inj (by omega) (by omega) hx
        rw [if_pos ⟨hz0, (okN_nI (by omega)).mpr hk2⟩] at h
        refine ⟨b2, _, b4.1, b4.2.1, by rw [b4.2.2]; exact vp_li (by omega) (by omega), ?_⟩
        rw [nI_clamp (by omega), (b8 k hk).2]
        exact h
      · rw [if_neg (fun w => hn ⟨w.1, okN_vp.mpr w.2⟩)] at h
        exact h
    · rw [if_neg (fun w => hn (okN_vp.mpr w.2))] at h
      exact h
  · rw [if_neg (fun w => hn (okN_vp.mpr w.1))] at h
    exact h
theorem C_opened {Q : Int32 → Prop} {m : Int32} (hS : CS S x σ) (hV : V σ.1) (h : Q (oOpened σ.1 m)) : wp_X11_opened x m S Q := by
  obtain ⟨hC, hz, ht, h01, bo, nx, wd, ⟨hb, hbo⟩, -, -, hL, hB, -⟩ := id hS
  obtain ⟨⟨f0, f1, f2, f3, f4, f5, f6⟩, -⟩ := id hC
  generalize σ.1 = q at *
  have h8 := hV.2.2.2.2.1
  unfold oOpened at h
  obtain ⟨g0, ⟨g1, g2, g3, g4⟩, g5, g6, ⟨g7, g7', g7''⟩, g8, g9⟩ := id hB
  refine c_withinB (a := 0) (b := 8) rfl rfl (by omega) (fun m _ hm hx => ⟨fun w => absurd w (by decide), fun _ => ⟨f0, _, hb, g1, ?_⟩⟩) (fun hn => ⟨fun _ => ?_, fun w => absurd rfl w⟩)
  · subst hx
    rw [if_pos ((okB_nI (by omega)).mpr ⟨by omega, hm⟩), tn_nI (by omega)] at h
    refine Lp_for (fun i => (nI (opS q m i), nI i)) (q 93) (fun i hi K hK => ?_) (fun K => ?_) (i := 0) (by omega)
    · obtain ⟨⟨a, a1, a2, a3, a4, w, a5, a6⟩, a7⟩ := g8 i hi
      have hv := hV.2.2.2.2.2.1 i hi
      refine ⟨g1, fun hc => ?_, fun _ => ⟨g1, _, g5.1, g5.2.1, by rw [g5.2.2]; exact vp_li (by omega) (by omega), a, by rw [nI_clamp (by omega)]; exact a1, a3, fun hc => ?_, fun hc => ?_⟩⟩
      · dsimp only at hc
        rw [g2, nI_leI (by omega) (by omega)] at hc
        omega
      · rw [a4, nI_ltI (by omega) (by omega)] at hc
        rintro _ rfl
        dsimp only
        rw [nI_1]
        have e : opS q m (i + 1) = opS q m i := by rw [opS, if_neg (by omega), Nat.or_zero]
        rw [e] at hK
        exact hK
      · rw [a4, nI_ltI (by omega) (by omega)] at hc
        rintro _ rfl _ rfl
        dsimp only
        rw [shl_nI (by omega), or_nI, nI_1]
        have e : opS q m (i + 1) = opS q m i ||| 2 ^ i := by rw [opS, if_pos (by omega)]
        rw [e] at hK
        exact hK
    · refine ⟨g1, fun _ => h, fun hc => ?_⟩
      rw [g2] at hc
      exact absurd (nI_le (Nat.le_refl _) (by omega)) hc
  · rw [if_neg hn] at h
    exact h
theorem C_lost {bo : Nat} {Q : Int32 → Prop} (hB : BoxAt S wd lo bo q) (hV : V q) (h : Q (nI (lostS q (q 94)))) : wp_X3_lostPackets bo S Q := by
  have h8 := hV.2.2.2.2.1
  obtain ⟨g0, ⟨g1, g2, g3, g4⟩, g5, g6, ⟨g7, g7', g7''⟩, g8, g9⟩ := id hB
  refine Lp_for (fun i => (nI (lostS q i), nI i)) (q 94) (fun i hi K hK => ?_) (fun K => ?_) (i := 0) (by omega)
  · obtain ⟨⟨b1, b2, b3, b4, b5⟩, b6, b7, b8⟩ := g9 i hi
    have hv := hV.2.2.2.2.2.2.1 i (by omega)
    refine ⟨g1, fun hc => ?_, fun _ => ⟨g1, _, g7, g7', by rw [g7'']; exact vp_li hi (by omega), _, by rw [nI_clamp (by omega)]; exact b1, b2, fun hc => ?_, fun hc => ?_⟩⟩
    · dsimp only at hc
      rw [g3, nI_leI (by omega) (by omega)] at hc
      omega
    · rw [b7, li_0, nI_eq (by omega) (by omega)] at hc
      rintro _ rfl
      dsimp only
      rw [nI_1]
      rw [lostS, hc, Nat.add_zero] at hK
      exact hK
    · rw [b7, li_0, nI_eq (by omega) (by omega)] at hc
      rintro _ rfl _ rfl
      dsimp only
      rw [nI_1, nI_1]
      rw [lostS, show q (114 + i) = 1 by omega] at hK
      exact hK
  · refine ⟨g1, fun _ => h, fun hc => ?_⟩
    rw [g3] at hc
    exact absurd (nI_le (Nat.le_refl _) (by omega)) hc
end CREAD
