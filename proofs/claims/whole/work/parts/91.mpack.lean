section MPACK2
variable {S : Hp} {mo : Nat} {σ : Sg}
/-- pack under way: needs below k, and of need k the parts below i, are packed -/
def PW (q : Nat → Nat) (k i : Nat) (q1 : Nat → Nat) : Prop := (∀ j, j < 93 → q1 j = q j) ∧ (q1 93 = q 2 ∧ q1 94 = q 0) ∧ (∀ p, p < q 2 → (q (4 + 15 * p) < k ∨ (q (4 + 15 * p) = k ∧ p < i)) → (q1 (96 + 3 * p) = q (3 + 15 * p) ∧ q1 (97 + 3 * p) = q (4 + 15 * p) ∧ q1 (98 + 3 * p) = frst q p) ∧ ∀ s, s < sP q p → ∀ t, t < q 0 → q1 (130 + 40 * t + (frst q p + s)) = vS q p s t ∧ q1 (450 + 40 * t + (frst q p + s)) = vS q p s t) ∧ ∀ t, t < 8 → ∀ i, i < 40 → q1 (130 + 40 * t + i) ≤ 28 ∧ q1 (450 + 40 * t + i) ≤ 28
theorem vS_cg {q q1 : Nat → Nat} {p s t : Nat} (hp : p < 6) (h12 : q (3 + 15 * p) ≤ 12) (h : ∀ j, j < 93 → q1 j = q j) : vS q1 p s t = vS q p s t := by
  have e4 := h (4 + 15 * p) (by omega)
  have e3 := h (3 + 15 * p) (by omega)
  have : cur q1 p s = cur q p s := by
    funext j
    unfold cur
    rw [e4, e3]
    by_cases c : q (4 + 15 * p) * s + j < q (3 + 15 * p)
    · rw [if_pos c, if_pos c]
      exact h _ (by omega)
    · rw [if_neg c, if_neg c]
  unfold vS
  rw [this, e4]
theorem PW_skip {q q1 : Nat → Nat} {k i : Nat} (hn : q (4 + 15 * i) ≠ k) (h : PW q k i q1) : PW q k (i + 1) q1 := by
  obtain ⟨h1, h2, h3, h4⟩ := h
  refine ⟨h1, h2, fun p hp hc => h3 p hp ?_, h4⟩
  by_cases e : p = i
  · subst e
    omega
  · omega
theorem PW_next {q q1 : Nat → Nat} {k : Nat} (h : PW q k (q 2) q1) : PW q (k + 1) 0 q1 := by
  obtain ⟨h1, h2, h3, h4⟩ := h
  exact ⟨h1, h2, fun p hp hc => h3 p hp (by omega), h4⟩
theorem M_pack {Q : Int32 → Hp → Prop} (hS : MS S mo σ) (hV : V σ.1)
    (h1 : σ.1 2 ≠ 0 → fitB σ.1 = true → ∀ S' q', PackRel σ.1 q' → MS S' mo (push σ q') → SO mo S S' → Q (nI (plK σ.1 9)) S')
    (h0 : ¬ (σ.1 2 ≠ 0 ∧ fitB σ.1 = true) → Q (-4) S) : wp_X12_pack mo S Q := by
  have h6 := hV.2.2.1
  refine m_rd 2 hS.1 li_2 (by omega) ?_
  rw [m_rv 2 hS.2.1 li_2 (by omega)]
  refine ⟨fun hc => h0 fun w => w.1 (nI_inj (by omega) (by omega) (hc.trans li_0)), fun hc => ⟨hS.1.1, m_isFit hS.1 hS.2.1 hV ⟨fun hb => ?_, fun hb => h0 fun w => ?_⟩⟩⟩
  · have hne : σ.1 2 ≠ 0 := fun w => hc (by rw [w]; rfl)
    have hfit : fitB σ.1 = true := by
      cases hq : fitB σ.1
      · rw [hq] at hb
        exact absurd rfl hb
      · rfl
    obtain ⟨fl, fn⟩ := (fit_iff hV).mp hfit
    replace h1 := h1 hne hfit
    have h40 := hV.2.1.2
    have hn8 := hV.1
    refine ⟨hS.1.1, M_notes hS fun S1 hS1 o1 => ?_⟩
    have hr1 : MR S1 mo σ.1 := hS1.2.1
    have hp1 : push σ σ.1 = (σ.1, (push σ σ.1).2) := rfl
    have hpu : ∀ q', push σ q' = (q', (push σ σ.1).2) := fun _ => rfl
    generalize (push σ σ.1).2 = τ at *
    simp only [hpu] at h1
    rw [hpu] at hS1
    generalize σ.1 = q at *
    obtain ⟨kk, ⟨a1, a2, a3⟩, -⟩ := id hS1.1
    refine ⟨kk, kk, _, a1, a2, by rw [a3]; exact vp_li (n := 2) (by omega) (by omega), a2, by rw [a3]; exact vp_li (n := 93) (by omega) (by omega), ?_⟩
    rintro _ rfl
    rw [m_rv 2 hr1 li_2 (by omega), li_93, nI_clamp (by omega)]
    have hS2 := MS_upd (k := 93) (v := q 2) hS1 (by omega)
    refine ⟨kk, kk, _, a1, a2, by rw [ln_sI, a3]; exact vp_li (n := 0) (by omega) (by omega), a2, by rw [ln_sI, a3]; exact vp_li (n := 94) (by omega) (by omega), ?_⟩
    rintro _ rfl
    rw [m_rv 0 hS2.2.1 li_0 (by omega), li_94, nI_clamp (by omega)]
    have e0 : va_up q 93 (q 2) 0 = q 0 := va_up_ne _ _ (by omega)
    dsimp only
    rw [e0]
    have hS3 := MS_upd (k := 94) (v := q 0) hS2 (by omega)
    have o3 : SO mo S (sI (sI S1 0 (mo + 1) 93 (nI (q 2))) 0 (mo + 1) 94 (nI (q 0))) := SO_tr o1 (SO_tr (SO_sI ⟨by omega, by omega⟩) (SO_sI ⟨by omega, by omega⟩))
    dsimp only at hS3
    generalize sI (sI S1 0 (mo + 1) 93 (nI (q 2))) 0 (mo + 1) 94 (nI (q 0)) = S3 at *
    have hP3 : PW q 1 0 (va_up (va_up q 93 (q 2)) 94 (q 0)) := by
      refine ⟨fun j hj => ?_, ⟨?_, ?_⟩, fun p hp hc => ?_, fun t ht i hi => ?_⟩
      · rw [va_up_ne _ _ (by omega), va_up_ne _ _ (by omega)]
      · rw [va_up_ne _ _ (by omega), va_up_self]
      · rw [va_up_self]
      · have := (hV.2.2.2.1 p hp).2.1
        omega
      · rw [va_up_ne _ _ (by omega), va_up_ne _ _ (by omega), va_up_ne _ _ (by omega), va_up_ne _ _ (by omega)]
        exact hV.2.2.2.2.2.2.2 t ht i hi
    generalize va_up (va_up q 93 (q 2)) 94 (q 0) = q3 at *
    have hpl : ∀ k, k ≤ 9 → plK q k ≤ 40 := fun k hk => by
      have := plN_mono (q := q) (n := q 2) (k := k) 9 hk
      show plN q (q 2) k ≤ 40
      have : plN q (q 2) 9 ≤ q 1 := fl
      omega
    have hp0 : plK q 1 = 0 := by
      have : ∀ n, n ≤ q 2 → inK q 0 n = 0 := by
        intro n
        induction n with
        | zero => intro _; rfl
        | succ n ih =>
          intro hn
          have := (hV.2.2.2.1 n (by omega)).2.1
          rw [inK, ih (by omega), if_neg (by omega)]
      show plN q (q 2) 0 + inK q 0 (q 2) = 0
      rw [this _ (Nat.le_refl _)]
      rfl
    refine Lp_of (fun n y => ∃ k S' q', 1 ≤ k ∧ k ≤ 9 ∧ n = 9 - k ∧ y = (nI (plK q k), nI k, S') ∧ PW q k 0 q' ∧ MS S' mo (q', τ) ∧ SO mo S S') (fun n y hy K hK => ?_) (n := 8) (x := (nI 0, nI 1, S3)) ⟨1, S3, q3, by omega, by omega, rfl, by rw [hp0], hP3, hS3, o3⟩
    obtain ⟨k, S4, q4, hk1, hk9, rfl, rfl, hP4, hS4, o4⟩ := hy
    dsimp only
    have hplk := hpl k hk9
    refine ⟨fun hd => ?_, fun hd => ?_⟩
    · rw [li_9, nI_leI (by omega) (by omega)] at hd
      obtain rfl : k = 9 := by omega
      refine m_rd 95 hS4.1 li_95 (by omega) ?_
      rintro _ rfl
      rw [li_95, nI_clamp (by omega)]
      have hS5 := MS_upd (k := 95) (v := plK q 9) hS4 (by omega)
      refine Lp_of (fun n y => ∃ t S' q', t ≤ 8 ∧ n = 8 - t ∧ y = (nI t, S') ∧ PW q 9 0 q' ∧ q' 95 = plK q 9 ∧ (∀ t', t' < t → q' (114 + t') = 0 ∧ q' (122 + t') = plK q 9) ∧ MS S' mo (q', τ) ∧ SO mo S S') (fun n y hy K2 hK2 => ?_) (n := 8) (x := (nI 0, sI S4 0 (mo + 1) 95 (nI (plK q 9)))) ⟨0, _, _, by omega, rfl, rfl, ?_, va_up_self _ _ _, fun t' ht' => absurd ht' (Nat.not_lt_zero t'), hS5, SO_tr o4 (SO_sI ⟨by omega, by omega⟩)⟩
      · obtain ⟨t, S6, q6, ht, rfl, rfl, hP6, h95, hlo, hS6, o6⟩ := hy
        dsimp only
        refine ⟨fun he => ?_, fun he => ?_⟩
        · rw [li_8, nI_leI (by omega) (by omega)] at he
          obtain rfl : t = 8 := by omega
          obtain ⟨g1, g2, g3, g4⟩ := hP6
          exact h1 S6 q6 ⟨g1, ⟨g2.1, g2.2, h95⟩, fun p hp => (g3 p hp (Or.inl (by have := (hV.2.2.2.1 p hp).2.1; omega))).1, hlo, fun p hp => (g3 p hp (Or.inl (by have := (hV.2.2.2.1 p hp).2.1; omega))).2, g4⟩ hS6 o6
        · rw [li_8, nI_leI (by omega) (by omega)] at he
          have i1 : (114 : Int32) + nI t = nI (114 + t) := by rw [li_114, nI_add]
          have i2 : (122 : Int32) + nI t = nI (122 + t) := by rw [li_122, nI_add]
          refine m_rd _ hS6.1 i1 (by omega) ?_
          rintro _ rfl
          rw [i1, nI_clamp (by omega)]
          have hS7 := MS_upd (k := 114 + t) (v := 0) hS6 (by omega)
          refine m_rd _ hS7.1 i2 (by omega) ?_
          rintro _ rfl _ rfl
          rw [i2, nI_clamp (by omega), nI_1]
          have hS8 := MS_upd (k := 122 + t) (v := plK q 9) hS7 (by omega)
          refine hK2 _ (8 - (t + 1)) (by omega) ⟨t + 1, _, _, by omega, rfl, rfl, ?_, ?_, fun t' ht' => ?_, hS8, SO_tr o6 (SO_tr (SO_sI ⟨by omega, by omega⟩) (SO_sI ⟨by omega, by omega⟩))⟩
          · obtain ⟨g1, g2, g3, g4⟩ := hP6
            have u : ∀ j, ¬ (114 ≤ j ∧ j < 130) → va_up (va_up q6 (114 + t) 0) (122 + t) (plK q 9) j = q6 j := fun j hj => by rw [va_up_ne _ _ (by omega), va_up_ne _ _ (by omega)]
            refine ⟨fun j hj => by rw [u j (by omega)]; exact g1 j hj, ⟨by rw [u _ (by omega)]; exact g2.1, by rw [u _ (by omega)]; exact g2.2⟩, fun p hp hc => ?_, fun t' ht' i hi => ?_⟩
            · rw [u _ (by omega), u _ (by omega), u _ (by omega)]
              refine ⟨(g3 p hp hc).1, fun s hs t' ht' => ?_⟩
              rw [u _ (by omega), u _ (by omega)]
              exact (g3 p hp hc).2 s hs t' ht'
            · rw [u _ (by omega), u _ (by omega)]
              exact g4 t' ht' i hi
          · dsimp only
            rw [va_up_ne _ _ (by omega), va_up_ne _ _ (by omega)]
            exact h95
          · dsimp only
            by_cases e : t' = t
            · subst e
              rw [va_up_ne _ _ (by omega), va_up_self, va_up_self]
              exact ⟨rfl, rfl⟩
            · rw [va_up_ne _ _ (by omega), va_up_ne _ _ (by omega), va_up_ne _ _ (by omega), va_up_ne _ _ (by omega)]
              exact hlo t' (by omega)
      · obtain ⟨g1, g2, g3, g4⟩ := hP4
        have u : ∀ j, j ≠ 95 → va_up q4 95 (plK q 9) j = q4 j := fun j hj => va_up_ne _ _ hj
        refine ⟨fun j hj => by rw [u j (by omega)]; exact g1 j hj, ⟨by rw [u _ (by omega)]; exact g2.1, by rw [u _ (by omega)]; exact g2.2⟩, fun p hp hc => ?_, fun t' ht' i hi => ?_⟩
        · rw [u _ (by omega), u _ (by omega), u _ (by omega)]
          refine ⟨(g3 p hp hc).1, fun s hs t' ht' => ?_⟩
          rw [u _ (by omega), u _ (by omega)]
          exact (g3 p hp hc).2 s hs t' ht'
        · rw [u _ (by omega), u _ (by omega)]
          exact g4 t' ht' i hi
    · rw [li_9, nI_leI (by omega) (by omega)] at hd
      have hpk1 : plK q k + inK q k (q 2) = plK q (k + 1) := rfl
      have hpl1 := hpl (k + 1) (by omega)
      have hpl9 : plK q (k + 1) ≤ plK q 9 := plN_mono 9 (by omega)
      refine Lp_of (fun n y => ∃ i S' q', i ≤ q 2 ∧ n = q 2 - i ∧ y = (nI (plK q k + inK q k i), nI i, S') ∧ PW q k i q' ∧ MS S' mo (q', τ) ∧ SO mo S S') (fun n y hy K2 hK2 => ?_) (n := q 2) (x := (nI (plK q k), nI 0, S4)) ⟨0, S4, q4, by omega, rfl, rfl, hP4, hS4, o4⟩
      obtain ⟨i, S5, q5, hi, rfl, rfl, hP5, hS5, o5⟩ := hy
      dsimp only
      obtain ⟨g1, g2, g3, g4⟩ := id hP5
      have u2 := g1 2 (by omega)
      have him := inK_mono (q := q) (k := k) (i := i) (q 2) hi
      refine m_rd 2 hS5.1 li_2 (by omega) ?_
      rw [m_rv 2 hS5.2.1 li_2 (by omega)]
      dsimp only
      rw [u2]
      refine ⟨fun he => ?_, fun he => ?_⟩
      · rw [nI_leI (by omega) (by omega)] at he
        obtain rfl : i = q 2 := by omega
        rintro _ rfl
        rw [nI_1]
        exact hK _ (9 - (k + 1)) (by omega) ⟨k + 1, S5, q5, by omega, by omega, rfl, rfl, PW_next hP5, hS5, o5⟩
      · rw [nI_leI (by omega) (by omega)] at he
        obtain ⟨v1, v2, v3, v4⟩ := hV.2.2.2.1 i (by omega)
        obtain ⟨kk5, ⟨b1, b2, b3⟩, -⟩ := id hS5.1
        unfold wp_X12_at
        have e0 : (3 : Int32) + 15 * nI i = nI (3 + 15 * i) := by rw [li_3, li_15, pk_mul, nI_add]
        have e1 : nI (3 + 15 * i) + (1 : Int32) = nI (4 + 15 * i) := by
          rw [nI_1]
          congr 1
          omega
        have e2 : nI (3 + 15 * i) + (0 : Int32) = nI (3 + 15 * i) := by
          rw [li_0, nI_add]
          rfl
        dsimp only
        rw [e0, e1, e2]
        refine ⟨kk5, _, b1, b2, by rw [b3]; exact vp_li (by omega) (by omega), ?_⟩
        rw [m_rv (4 + 15 * i) hS5.2.1 rfl (by omega)]
        dsimp only
        rw [g1 (4 + 15 * i) (by omega)]
        refine ⟨fun hne => ?_, fun heq => ?_⟩
        · rw [nI_ne (by omega) (by omega)] at hne
          rintro _ rfl
          rw [nI_1]
          refine hK2 _ (q 2 - (i + 1)) (by omega) ⟨i + 1, S5, q5, by omega, rfl, ?_, PW_skip hne hP5, hS5, o5⟩
          rw [inK, if_neg hne]
          rfl
        · rw [nI_eq (by omega) (by omega)] at heq
          have hik : inK q k (i + 1) = inK q k i + sP q i := by rw [inK, if_pos heq]
          have him1 := inK_mono (q := q) (k := k) (i := i + 1) (q 2) (by omega)
          have hfr : frst q i = plK q k + inK q k i := by unfold frst; rw [heq]
          have j0 : (96 : Int32) + 3 * nI i = nI (96 + 3 * i) := by rw [li_96, li_3, pk_mul, nI_add]
          have j1 : nI (96 + 3 * i) + (1 : Int32) = nI (97 + 3 * i) := by
            rw [nI_1]
            congr 1
            omega
          have j2 : nI (96 + 3 * i) + (2 : Int32) = nI (98 + 3 * i) := by
            rw [li_2, nI_add]
            congr 1
            omega
          rw [j0, j1, j2]
          refine ⟨kk5, kk5, _, b1, b2, by rw [b3]; exact vp_li (by omega) (by omega), b2, by rw [b3]; exact vp_li (by omega) (by omega), ?_⟩
          rintro _ rfl
          rw [m_rv (3 + 15 * i) hS5.2.1 rfl (by omega), nI_clamp (n := 96 + 3 * i) (by omega)]
          dsimp only
          rw [g1 (3 + 15 * i) (by omega)]
          have hS6 := MS_upd (k := 96 + 3 * i) (v := q (3 + 15 * i)) hS5 (by omega)
          refine m_rd _ hS6.1 rfl (by omega) ?_
          rintro _ rfl
          rw [nI_clamp (n := 97 + 3 * i) (by omega)]
          have hS7 := MS_upd (k := 97 + 3 * i) (v := k) hS6 (by omega)
          refine m_rd _ hS7.1 rfl (by omega) ?_
          rintro _ rfl
          rw [nI_clamp (n := 98 + 3 * i) (by omega)]
          have hS8 := MS_upd (k := 98 + 3 * i) (v := plK q k + inK q k i) hS7 (by omega)
          have o8 : SO mo S5 (sI (sI (sI S5 0 (mo + 1) (96 + 3 * i) (nI (q (3 + 15 * i)))) 0 (mo + 1) (97 + 3 * i) (nI k)) 0 (mo + 1) (98 + 3 * i) (nI (plK q k + inK q k i))) := SO_tr (SO_sI ⟨by omega, by omega⟩) (SO_tr (SO_sI ⟨by omega, by omega⟩) (SO_sI ⟨by omega, by omega⟩))
          dsimp only at hS8
          generalize sI (sI (sI S5 0 (mo + 1) (96 + 3 * i) (nI (q (3 + 15 * i)))) 0 (mo + 1) (97 + 3 * i) (nI k)) 0 (mo + 1) (98 + 3 * i) (nI (plK q k + inK q k i)) = S8 at *
          have w : ∀ j, ¬ (96 + 3 * i ≤ j ∧ j ≤ 98 + 3 * i) → va_up (va_up (va_up q5 (96 + 3 * i) (q (3 + 15 * i))) (97 + 3 * i) k) (98 + 3 * i) (plK q k + inK q k i) j = q5 j := fun j hj => by rw [va_up_ne _ _ (by omega), va_up_ne _ _ (by omega), va_up_ne _ _ (by omega)]
          have w0 : va_up (va_up (va_up q5 (96 + 3 * i) (q (3 + 15 * i))) (97 + 3 * i) k) (98 + 3 * i) (plK q k + inK q k i) (96 + 3 * i) = q (3 + 15 * i) := by rw [va_up_ne _ _ (by omega), va_up_ne _ _ (by omega), va_up_self]
          have w1 : va_up (va_up (va_up q5 (96 + 3 * i) (q (3 + 15 * i))) (97 + 3 * i) k) (98 + 3 * i) (plK q k + inK q k i) (97 + 3 * i) = k := by rw [va_up_ne _ _ (by omega), va_up_self]
          have w2 : va_up (va_up (va_up q5 (96 + 3 * i) (q (3 + 15 * i))) (97 + 3 * i) k) (98 + 3 * i) (plK q k + inK q k i) (98 + 3 * i) = plK q k + inK q k i := va_up_self _ _ _
          generalize va_up (va_up (va_up q5 (96 + 3 * i) (q (3 + 15 * i))) (97 + 3 * i) k) (98 + 3 * i) (plK q k + inK q k i) = q8 at *
          have g8 : ∀ j, j < 93 → q8 j = q j := fun j hj => (w j (by omega)).trans (g1 j hj)
          have hsp : sP q8 i = sP q i := by
            unfold sP
            rw [g8 _ (by omega), g8 _ (by omega)]
          refine ⟨hS8.1.1, M_packs hS8 (by show q8 0 ≤ 8; rw [g8 0 (by omega)]; omega) (by omega) (by show q8 (3 + 15 * i) ≤ 12; rw [g8 _ (by omega)]; omega) (by show 1 ≤ q8 (4 + 15 * i); rw [g8 _ (by omega)]; omega) (by show q8 (4 + 15 * i) ≤ 8; rw [g8 _ (by omega)]; omega) (fun j hj => ?_) (fun t ht j hj => ?_) (by show _ + sP q8 i ≤ 40; rw [hsp]; omega) fun S9 q9 hW hS9 o9 => ⟨hS9.1.1, ?_⟩⟩
          · dsimp only at hj ⊢
            rw [g8 _ (by omega)] at hj
            rw [g8 _ (by omega)]
            exact v4 j hj
          · dsimp only
            rw [w _ (by omega), w _ (by omega)]
            exact g4 t ht j hj
          · dsimp only at hW
            obtain ⟨x1, x2, x3, x4⟩ := hW
            have g9 : ∀ j, j < 93 → q9 j = q j := fun j hj => (x1 j (by omega)).trans (g8 j hj)
            have hs9 : (q9 (3 + 15 * i) + q9 (4 + 15 * i) - 1) / q9 (4 + 15 * i) = sP q i := by
              rw [g9 _ (by omega), g9 _ (by omega)]
              rfl
            refine m_stripesOf (r := q9) hS9.1 hS9.2.1 (by omega) (by rw [g9 _ (by omega)]; omega) (by rw [g9 _ (by omega)]; omega) (by rw [g9 _ (by omega)]; omega) ?_
            rw [hs9]
            rintro _ rfl _ rfl
            rw [nI_add, nI_1]
            refine hK2 _ (q 2 - (i + 1)) (by omega) ⟨i + 1, S9, q9, by omega, rfl, ?_, ⟨g9, ⟨?_, ?_⟩, fun p hp hc => ?_, x4⟩, hS9, SO_tr o5 (SO_tr o8 o9)⟩
            · rw [hik, Nat.add_assoc]
            · rw [x1 _ (by omega), w _ (by omega)]
              exact g2.1
            · rw [x1 _ (by omega), w _ (by omega)]
              exact g2.2
            · by_cases e : p = i
              · subst e
                rw [x1 _ (by omega), x1 _ (by omega), x1 _ (by omega), w0, w1, w2]
                refine ⟨⟨rfl, heq.symm, hfr.symm⟩, fun s hs t ht => ?_⟩
                have := x2 s t (by rw [g8 0 (by omega)]; exact ht) (Or.inl (by rw [hsp]; exact hs))
                rw [vS_cg (by omega) (by omega) g8] at this
                rw [hfr]
                exact this
              · have hc' : q (4 + 15 * p) < k ∨ (q (4 + 15 * p) = k ∧ p < i) := by omega
                rw [x1 _ (by omega), x1 _ (by omega), x1 _ (by omega), w _ (by omega), w _ (by omega), w _ (by omega)]
                refine ⟨(g3 p hp hc').1, fun s hs t ht => ?_⟩
                have hbe : frst q p + sP q p ≤ plK q k + inK q k i := by
                  rcases hc' with c | c
                  · have := fr_lt hp c
                    omega
                  · have := fr_eq (q := q) c.2
                    rw [c.1] at this
                    exact this
                have := x3 t (by omega) (frst q p + s) (by omega) (Or.inl (by omega))
                rw [this.1, this.2, w _ (by omega), w _ (by omega)]
                exact (g3 p hp hc').2 s hs t ht
  · rw [w.2] at hb
    exact absurd hb (by decide)
end MPACK2
