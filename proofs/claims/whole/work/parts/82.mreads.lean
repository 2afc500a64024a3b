/-! ===== the reference's clauses ===== -/
section MREADS
variable {S : Hp} {mo : Nat} {σ : Sg} {f m c : Nat} {d : Int32} {g : Nat → Int32}
/-- at a token that begins at f: m parts told, c clauses, doing d, the two numbers g -/
def RD (S : Hp) (mo : Nat) (σ : Sg) (f m c : Nat) (d : Int32) (g : Nat → Int32) : Prop := MS S mo σ ∧ (gI S 197 mo 0 = nI f ∧ gI S 198 mo 0 = nI (tE σ.2.2.1 σ.2.2.2 f) ∧ f ≤ σ.2.2.2) ∧ (gI S 199 mo 0 = nI m ∧ gI S 200 mo 0 = nI c ∧ gI S 201 mo 0 = d) ∧ ∀ k, gI S 0 (mo + 3) k = g k
theorem N2_o {f e k : Nat} (h1 : k ≠ 197) (h2 : k ≠ 198) : gI (N2 S mo f e) k mo 0 = gI S k mo 0 := by
  unfold N2
  rw [gI_sI, if_neg (by omega), gI_sI, if_neg (by omega)]
theorem N2_SO {f e : Nat} : SO mo S (N2 S mo f e) := SO_tr (SO_sI ⟨by omega, by omega⟩) (SO_sI ⟨by omega, by omega⟩)
theorem M_next {Q : Hp → Prop} (h : RD S mo σ f m c d g) (hQ : ∀ S', RD S' mo σ (nF σ.2.2.1 σ.2.2.2 f) m c d g → SO mo S S' → Q S') : wp_X12_next mo S Q := by
  obtain ⟨hS, ⟨r1, r2, r3⟩, ⟨r4, r5, r6⟩, r7⟩ := h
  refine m_next (TX_of hS) r2 (tE_le r3) (hQ _ ⟨MS_fld (MS_fld hS (by omega) (by omega) (by omega)) (by omega) (by omega) (by omega), ⟨N2_197, N2_198, nF_le r3⟩, ⟨(N2_o (by omega) (by omega)).trans r4, (N2_o (by omega) (by omega)).trans r5, (N2_o (by omega) (by omega)).trans r6⟩, fun k => N2_0.trans (r7 k)⟩ N2_SO)
theorem M_reads {Q : Int32 → Hp → Prop} {k hi : Nat} {x1 x2 x3 : Int32} (h : RD S mo σ f m c d g) (hk : k < 2) (hhi : hi ≤ 40) (e1 : x1 = nI k) (e2 : x2 = nI 1) (e3 : x3 = nI hi) (h1 : nmOk σ.2.2.1 σ.2.2.2 f hi → ∀ S', RD S' mo σ (nF σ.2.2.1 σ.2.2.2 f) m c d (va_up g k (nI (vl σ.2.2.1 σ.2.2.2 f))) → SO mo S S' → Q 1 S') (h0 : ¬ nmOk σ.2.2.1 σ.2.2.2 f hi → Q 0 S) : wp_X12_reads mo x1 x2 x3 S Q := by
  subst e1 e2 e3
  obtain ⟨hS, ⟨r1, r2, r3⟩, ⟨r4, r5, r6⟩, r7⟩ := id h
  obtain ⟨k0, ⟨t2, k2, l2⟩, ht1, ht2, ht3⟩ := TX_of hS
  obtain ⟨-, -, -, ⟨t3, k3, l3⟩, -⟩ := hS.1
  have heg := tE_ge (T := σ.2.2.1) (L := σ.2.2.2) (f := f)
  have hel := tE_le (T := σ.2.2.1) r3
  refine ⟨k0, k0, fun hc => h0 ?_, fun hc => ⟨k0, k0, _, t2, k2, ?_, ?_⟩⟩
  · rw [r1, ht1, nI_eq (by omega) (by omega)] at hc
    exact fun w => by have := w.1.1; omega
  · rw [r1, ht1, nI_eq (by omega) (by omega)] at hc
    rw [r1, l2]
    exact vp_li (by omega) (by omega)
  · rw [r1, ht1, nI_eq (by omega) (by omega)] at hc
    have hfl : f < σ.2.2.2 := by omega
    rw [r1, nI_clamp (by omega), (ht3 f hfl).1]
    refine m_isDigit (ht3 f hfl).2 (fun wd => ⟨fun z => absurd z (by decide), fun _ => ⟨k0, k0, fun hd => ⟨k0, ?_⟩, fun hd => h0 ?_⟩⟩) (fun wd => ⟨fun _ => h0 fun w => wd w.1.2.1, fun z => absurd rfl z⟩)
    · rw [r2, pk_sub heg, li_2, nI_leI (by omega) (by omega)] at hd
      rintro _ rfl
      have hal : ∀ i, f ≤ i → i < f + (tE σ.2.2.1 σ.2.2.2 f - f) → isDg (σ.2.2.1 i) = true := fun i i1 i2 => tE_alld hfl wd i1 (by omega)
      have hv := (vlF_le _ hd hal).1
      refine Lp_for (fun i => (nI (vlF σ.2.2.1 f i), nI (f + i), S)) (tE σ.2.2.1 σ.2.2.2 f - f) (fun i hi K hK => ?_) (fun K => ?_) (i := 0) (by omega)
      · have hvi := (vlF_le i (by omega) (fun j j1 j2 => hal j j1 (by omega))).1
        have hdi := isDg_iff.mp (hal (f + i) (by omega) (by omega))
        refine ⟨k0, fun he => ?_, fun he => ⟨k0, _, t2, k2, ?_, ?_⟩⟩
        · try dsimp only at he
          rw [r2, nI_leI (by omega) (by omega)] at he
          omega
        · try dsimp only
          rw [l2]
          exact vp_li (by omega) (by omega)
        · rintro _ rfl _ rfl
          try dsimp only
          rw [nI_clamp (by omega), (ht3 (f + i) (by omega)).1, li_10, li_48, pk_mul, nI_add, pk_sub (by omega), nI_1]
          have e : 10 * vlF σ.2.2.1 f i + σ.2.2.1 (f + i) - 48 = vlF σ.2.2.1 f (i + 1) := by
            rw [vlF]
            omega
          rw [e]
          exact hK
      · refine ⟨k0, fun he => ?_, fun he => ?_⟩
        · try dsimp only
          have ev : vlF σ.2.2.1 f (tE σ.2.2.1 σ.2.2.2 f - f) = vl σ.2.2.1 σ.2.2.2 f := rfl
          rw [ev] at hv ⊢
          refine m_inB (a := 1) (b := hi) (by rw [Int32.toInt_toInt64]; rfl) (by rw [Int32.toInt_toInt64, nI_toInt (by omega)]) (by omega) (fun j j1 j2 hx => ⟨fun _ => ⟨k0, _, t3, k3, ?_, ?_⟩, fun z => absurd z (by decide)⟩) (fun hn => ⟨fun z => absurd rfl z, fun _ => h0 fun w => hn ?_⟩)
          · rw [l3]
            exact vp_li hk (by omega)
          · obtain rfl : vl σ.2.2.1 σ.2.2.2 f = j := nI_inj (by omega) (by omega) hx
            rintro _ rfl
            rw [nI_clamp (by omega)]
            refine ⟨k0, M_next (S := sI S 0 (mo + 3) k (nI (vl σ.2.2.1 σ.2.2.2 f))) (g := va_up g k (nI (vl σ.2.2.1 σ.2.2.2 f))) ⟨MS_n3 hS, ⟨?_, ?_, r3⟩, ⟨?_, ?_, ?_⟩, fun j => ?_⟩ fun S' hS' o' => h1 ⟨⟨hfl, wd, hd⟩, j1, j2⟩ S' hS' (SO_tr (SO_sI ⟨by omega, by omega⟩) o')⟩
            · rw [gI_sI, if_neg (by omega)]
              exact r1
            · rw [gI_sI, if_neg (by omega)]
              exact r2
            · rw [gI_sI, if_neg (by omega)]
              exact r4
            · rw [gI_sI, if_neg (by omega)]
              exact r5
            · rw [gI_sI, if_neg (by omega)]
              exact r6
            · rw [gI_sI]
              unfold va_up
              by_cases hj : j = k
              · rw [if_pos ⟨rfl, rfl, hj⟩, if_pos hj]
              · rw [if_neg (fun w => hj w.2.2), if_neg hj]
                exact r7 j
          · rw [nI_toInt (by omega)]
            omega
        · try dsimp only at he
          rw [r2, nI_leI (by omega) (by omega)] at he
          omega
    · rw [r2, pk_sub heg, li_2, nI_leI (by omega) (by omega)] at hd
      exact fun w => hd w.1.2.2
/-- the row changes only if it is done -/
def dS (d : Int32) (σ : Sg) (q : Nat → Nat) : Sg := (if d = 1 then q else σ.1, σ.2)
theorem dS_0 {q : Nat → Nat} : dS 0 σ q = σ := by
  unfold dS
  rw [if_neg (by decide)]
theorem dS_1 {q : Nat → Nat} : dS 1 σ q = (q, σ.2) := by
  unfold dS
  rw [if_pos rfl]
theorem RD_told {v : Nat} (h : RD S mo σ f m c d g) : RD (sI S 199 mo 0 (nI v)) mo σ f v c d g := by
  obtain ⟨hS, ⟨r1, r2, r3⟩, ⟨r4, r5, r6⟩, r7⟩ := id h
  refine ⟨MS_fld hS (by omega) (by omega) (by omega), ⟨?_, ?_, r3⟩, ⟨?_, ?_, ?_⟩, fun j => ?_⟩
  · rw [gI_sI, if_neg (by omega)]
    exact r1
  · rw [gI_sI, if_neg (by omega)]
    exact r2
  · rw [gI_sI, if_pos ⟨rfl, rfl, rfl⟩]
  · rw [gI_sI, if_neg (by omega)]
    exact r5
  · rw [gI_sI, if_neg (by omega)]
    exact r6
  · rw [gI_sI, if_neg (by omega)]
    exact r7 j
theorem RD_clauses {v : Nat} (h : RD S mo σ f m c d g) : RD (sI S 200 mo 0 (nI v)) mo σ f m v d g := by
  obtain ⟨hS, ⟨r1, r2, r3⟩, ⟨r4, r5, r6⟩, r7⟩ := id h
  refine ⟨MS_fld hS (by omega) (by omega) (by omega), ⟨?_, ?_, r3⟩, ⟨?_, ?_, ?_⟩, fun j => ?_⟩
  · rw [gI_sI, if_neg (by omega)]
    exact r1
  · rw [gI_sI, if_neg (by omega)]
    exact r2
  · rw [gI_sI, if_neg (by omega)]
    exact r4
  · rw [gI_sI, if_pos ⟨rfl, rfl, rfl⟩]
  · rw [gI_sI, if_neg (by omega)]
    exact r6
  · rw [gI_sI, if_neg (by omega)]
    exact r7 j
theorem RD_upd {k v : Nat} (h : RD S mo σ f m c d g) (hk : k < 770) : RD (sI S 0 (mo + 1) k (nI v)) mo (va_up σ.1 k v, σ.2) f m c d g := by
  obtain ⟨hS, ⟨r1, r2, r3⟩, ⟨r4, r5, r6⟩, r7⟩ := id h
  refine ⟨MS_upd hS hk, ⟨?_, ?_, r3⟩, ⟨?_, ?_, ?_⟩, fun j => ?_⟩
  · rw [gI_sI, if_neg (by omega)]
    exact r1
  · rw [gI_sI, if_neg (by omega)]
    exact r2
  · rw [gI_sI, if_neg (by omega)]
    exact r4
  · rw [gI_sI, if_neg (by omega)]
    exact r5
  · rw [gI_sI, if_neg (by omega)]
    exact r6
  · rw [gI_sI, if_neg (by omega)]
    exact r7 j
theorem M_readsPart {Q : Int32 → Hp → Prop} (h : RD S mo σ f m c d g) (hd : d = 0 ∨ d = 1) (hm : m < 6) (hdm : d = 1 → σ.1 2 = m)
    (h1 : wdOk σ.2.2.1 σ.2.2.2 f → nmOk σ.2.2.1 σ.2.2.2 (nF σ.2.2.1 σ.2.2.2 f) 8 → nmOk σ.2.2.1 σ.2.2.2 (nF σ.2.2.1 σ.2.2.2 (nF σ.2.2.1 σ.2.2.2 f)) 9 → ∀ S' g', RD S' mo (dS d σ (partR σ.2.2.1 f (tE σ.2.2.1 σ.2.2.2 f - f) (vl σ.2.2.1 σ.2.2.2 (nF σ.2.2.1 σ.2.2.2 f)) (vl σ.2.2.1 σ.2.2.2 (nF σ.2.2.1 σ.2.2.2 (nF σ.2.2.1 σ.2.2.2 f))) σ.1)) (nF σ.2.2.1 σ.2.2.2 (nF σ.2.2.1 σ.2.2.2 (nF σ.2.2.1 σ.2.2.2 f))) (m + 1) c d g' → SO mo S S' → Q 1 S')
    (h0 : ¬ wdOk σ.2.2.1 σ.2.2.2 f → Q 0 S)
    (h2 : wdOk σ.2.2.1 σ.2.2.2 f → ¬ nmOk σ.2.2.1 σ.2.2.2 (nF σ.2.2.1 σ.2.2.2 f) 8 → ∀ S' g', RD S' mo σ (nF σ.2.2.1 σ.2.2.2 f) m c d g' → SO mo S S' → Q 0 S')
    (h3 : wdOk σ.2.2.1 σ.2.2.2 f → nmOk σ.2.2.1 σ.2.2.2 (nF σ.2.2.1 σ.2.2.2 f) 8 → ¬ nmOk σ.2.2.1 σ.2.2.2 (nF σ.2.2.1 σ.2.2.2 (nF σ.2.2.1 σ.2.2.2 f)) 9 → ∀ S' g', RD S' mo σ (nF σ.2.2.1 σ.2.2.2 (nF σ.2.2.1 σ.2.2.2 f)) m c d g' → SO mo S S' → Q 0 S') : wp_X12_readsPart mo S Q := by
  obtain ⟨hS, ⟨r1, r2, r3⟩, ⟨r4, r5, r6⟩, r7⟩ := id h
  obtain ⟨k0, ⟨t2, k2, l2⟩, ht1, ht2, ht3⟩ := TX_of hS
  have heg := tE_ge (T := σ.2.2.1) (L := σ.2.2.2) (f := f)
  have hel := tE_le (T := σ.2.2.1) r3
  refine ⟨k0, k0, fun hc => h0 ?_, fun hc => ⟨k0, k0, _, t2, k2, ?_, ?_⟩⟩
  · rw [r1, ht1, nI_eq (by omega) (by omega)] at hc
    exact fun w => by have := w.1; omega
  · rw [r1, ht1, nI_eq (by omega) (by omega)] at hc
    rw [r1, l2]
    exact vp_li (by omega) (by omega)
  · rw [r1, ht1, nI_eq (by omega) (by omega)] at hc
    have hfl : f < σ.2.2.2 := by omega
    rw [r1, nI_clamp (by omega), (ht3 f hfl).1]
    refine m_isSmall (ht3 f hfl).2 (fun ws => ⟨fun z => absurd z (by decide), fun _ => ⟨k0, k0, fun hd12 => ⟨k0, ?_⟩, fun hd12 => h0 ?_⟩⟩) (fun ws => ⟨fun _ => h0 fun w => ws w.2.1, fun z => absurd rfl z⟩)
    · rw [r2, pk_sub heg, li_12, nI_leI (by omega) (by omega)] at hd12
      have hwd : wdOk σ.2.2.1 σ.2.2.2 f := ⟨hfl, ws, hd12⟩
      rintro _ rfl
      refine ⟨k0, k0, ?_⟩
      rintro _ rfl
      rw [r2, pk_sub heg]
      refine ⟨k0, M_next h fun S1 hR1 o1 => ⟨hR1.1.1.1, M_reads (k := 0) (hi := 8) hR1 (by omega) (by omega) rfl rfl rfl (fun hn S2 hR2 o2 => ⟨fun z => absurd z (by decide), fun _ => ⟨hR2.1.1.1, ?_⟩⟩) (fun hn => ⟨fun _ => h2 hwd hn S1 _ hR1 o1, fun z => absurd rfl z⟩)⟩⟩
      refine M_reads (k := 1) (hi := 9) hR2 (by omega) (by omega) rfl rfl rfl (fun hn3 S3 hR3 o3 => ⟨fun _ => ⟨hR3.1.1.1, hR3.1.1.1, ?_⟩, fun z => absurd z (by decide)⟩) (fun hn3 => ⟨fun z => absurd rfl z, fun _ => h3 hwd hn hn3 S2 _ hR2 (SO_tr o1 o2)⟩)
      rintro _ rfl
      rw [hR3.2.2.1.1, nI_1]
      have hR4 := RD_told (v := m + 1) hR3
      have o4 : SO mo S (sI S3 199 mo 0 (nI (m + 1))) := SO_tr o1 (SO_tr o2 (SO_tr o3 (SO_sI ⟨by omega, by omega⟩)))
      replace h1 := h1 hwd hn hn3
      -- the two numbers
      generalize hu : vl σ.2.2.1 σ.2.2.2 (nF σ.2.2.1 σ.2.2.2 f) = u at *
      generalize hw : vl σ.2.2.1 σ.2.2.2 (nF σ.2.2.1 σ.2.2.2 (nF σ.2.2.1 σ.2.2.2 f)) = w at *
      generalize hf3 : nF σ.2.2.1 σ.2.2.2 (nF σ.2.2.1 σ.2.2.2 (nF σ.2.2.1 σ.2.2.2 f)) = f3 at *
      generalize sI S3 199 mo 0 (nI (m + 1)) = S4 at *
      have hg0 : ∀ (S' : Hp) (τ : Sg), RD S' mo τ f3 (m + 1) c d (va_up (va_up g 0 (nI u)) 1 (nI w)) → gI S' 0 (mo + 3) 0 = nI u ∧ gI S' 0 (mo + 3) 1 = nI w := fun S' τ hR => by
        rw [hR.2.2.2 0, hR.2.2.2 1, va_up_ne _ _ (by omega), va_up_self, va_up_self]
        exact ⟨rfl, rfl⟩
      refine ⟨hR4.1.1.1, fun hz => ?_, fun hz => ?_⟩
      · rw [hR4.2.2.1.2.2] at hz
        subst hz
        rw [dS_0] at h1
        exact h1 S4 _ hR4 o4
      · rw [hR4.2.2.1.2.2] at hz
        have hd1 : d = 1 := hd.resolve_left hz
        subst hd1
        rw [dS_1] at h1
        have hm2 := hdm rfl
        refine m_rd 2 hR4.1.1 li_2 (by omega) ?_
        rw [m_rv 2 hR4.1.2.1 li_2 (by omega), hm2]
        unfold wp_X12_at
        have e0 : (3 : Int32) + 15 * nI m = nI (3 + 15 * m) := by rw [li_3, li_15, pk_mul, nI_add]
        rw [e0]
        have ex : ∀ j : Nat, nI (3 + 15 * m) + nI j = nI (3 + 15 * m + j) := fun j => nI_add _ _
        obtain ⟨kk, ⟨a1, a2, a3⟩, -, ⟨b1, b2, b3⟩, -⟩ := hR4.1.1
        refine m_rd 2 hR4.1.1 li_2 (by omega) ⟨a2, by rw [a3]; exact vp_li (n := 2) (by omega) (by omega), ?_⟩
        rintro _ rfl
        rw [m_rv 2 hR4.1.2.1 li_2 (by omega), li_2, nI_clamp (by omega), hm2, nI_1]
        have hR5 := RD_upd (k := 2) (v := m + 1) hR4 (by omega)
        refine m_rd (3 + 15 * m) hR5.1.1 (by rw [li_0, ex]; rfl) (by omega) ?_
        rintro _ rfl
        rw [li_0, ex, nI_clamp (by omega), show 3 + 15 * m + 0 = 3 + 15 * m from rfl]
        have hR6 := RD_upd (k := 3 + 15 * m) (v := tE σ.2.2.1 σ.2.2.2 f - f) hR5 (by omega)
        refine ⟨kk, kk, _, b1, b2, by show vp_in (nI 0) (ln S4 (mo + 3)); rw [b3]; exact vp_li (by omega) (by omega), ?_⟩
        refine ⟨_, a1, a2, by show vp_in (nI (3 + 15 * m) + nI 1) (ln S4 (mo + 1)); rw [ex, a3]; exact vp_li (by omega) (by omega), ?_⟩
        rintro _ rfl
        rw [nI_clamp (by omega), (hg0 _ _ hR6).1, li_1, ex, nI_clamp (by omega)]
        have hR7 := RD_upd (k := 3 + 15 * m + 1) (v := u) hR6 (by omega)
        refine ⟨kk, kk, _, b1, b2, by show vp_in (nI 1) (ln S4 (mo + 3)); rw [b3]; exact vp_li (by omega) (by omega), ?_⟩
        refine ⟨_, a1, a2, by show vp_in (nI (3 + 15 * m) + nI 2) (ln S4 (mo + 1)); rw [ex, a3]; exact vp_li (by omega) (by omega), ?_⟩
        rintro _ rfl
        rw [nI_clamp (by omega), (hg0 _ _ hR7).2, ex, nI_clamp (by omega)]
        have hR8 := RD_upd (k := 3 + 15 * m + 2) (v := w) hR7 (by omega)
        have o8 : SO mo S (sI (sI (sI (sI S4 0 (mo + 1) 2 (nI (m + 1))) 0 (mo + 1) (3 + 15 * m) (nI (tE σ.2.2.1 σ.2.2.2 f - f))) 0 (mo + 1) (3 + 15 * m + 1) (nI u)) 0 (mo + 1) (3 + 15 * m + 2) (nI w)) := SO_tr o4 (SO_tr (SO_sI ⟨by omega, by omega⟩) (SO_tr (SO_sI ⟨by omega, by omega⟩) (SO_tr (SO_sI ⟨by omega, by omega⟩) (SO_sI ⟨by omega, by omega⟩))))
        have hpr : partR σ.2.2.1 f (tE σ.2.2.1 σ.2.2.2 f - f) u w σ.1 = wrdR σ.2.2.1 f (6 + 15 * m) (va_up (va_up (va_up (va_up σ.1 2 (m + 1)) (3 + 15 * m) (tE σ.2.2.1 σ.2.2.2 f - f)) (3 + 15 * m + 1) u) (3 + 15 * m + 2) w) (tE σ.2.2.1 σ.2.2.2 f - f) := by
          unfold partR
          rw [hm2, show 3 + 15 * m + 1 = 4 + 15 * m by omega, show 3 + 15 * m + 2 = 5 + 15 * m by omega]
        rw [hpr] at h1
        try dsimp only at hR8
        generalize sI (sI (sI (sI S4 0 (mo + 1) 2 (nI (m + 1))) 0 (mo + 1) (3 + 15 * m) (nI (tE σ.2.2.1 σ.2.2.2 f - f))) 0 (mo + 1) (3 + 15 * m + 1) (nI u)) 0 (mo + 1) (3 + 15 * m + 2) (nI w) = S8 at *
        generalize va_up (va_up (va_up (va_up σ.1 2 (m + 1)) (3 + 15 * m) (tE σ.2.2.1 σ.2.2.2 f - f)) (3 + 15 * m + 1) u) (3 + 15 * m + 2) w = q8 at *
        generalize va_up (va_up g 0 (nI u)) 1 (nI w) = g8 at *
        refine Lp_of (fun n y => ∃ i S', i ≤ tE σ.2.2.1 σ.2.2.2 f - f ∧ n = (tE σ.2.2.1 σ.2.2.2 f - f) - i ∧ y = (nI i, S') ∧ RD S' mo (wrdR σ.2.2.1 f (6 + 15 * m) q8 i, σ.2) f3 (m + 1) c 1 g8 ∧ SO mo S S') (fun n y hy K hK => ?_) (n := tE σ.2.2.1 σ.2.2.2 f - f) (x := (nI 0, S8)) ⟨0, S8, by omega, rfl, rfl, hR8, o8⟩
        obtain ⟨i, S9, hi, rfl, rfl, hR9, o9⟩ := hy
        refine ⟨fun he => ?_, fun he => ?_⟩
        · try dsimp only at he ⊢
          rw [nI_leI (by omega) (by omega)] at he
          obtain rfl : i = tE σ.2.2.1 σ.2.2.2 f - f := by omega
          exact h1 S9 _ hR9 o9
        · try dsimp only at he ⊢
          rw [nI_leI (by omega) (by omega)] at he
          obtain ⟨kk9, ⟨a1', a2', a3'⟩, ⟨t2', k2', l2'⟩, -⟩ := hR9.1.1
          have hch := isSm_iff.mp (tE_alls hfl ws (i := f + i) (by omega) (by omega))
          have hc9 := (hR9.1.2.2.2.1.2.2 (f + i) (by show f + i < σ.2.2.2; omega)).1
          have e9 : nI (3 + 15 * m) + 3 + nI i = nI (6 + 15 * m + i) := by
            rw [li_3, ex, nI_add]
            congr 1
            omega
          refine ⟨kk9, kk9, _, t2', k2', by rw [nI_add, l2']; exact vp_li (by omega) (by omega), _, a1', a2', by rw [e9, a3']; exact vp_li (by omega) (by omega), ?_⟩
          rintro _ rfl _ rfl
          rw [e9, nI_clamp (by omega), nI_add, nI_clamp (by omega), hc9, li_97, pk_sub (by show 97 ≤ σ.2.2.1 (f + i); omega), nI_1]
          exact hK _ (tE σ.2.2.1 σ.2.2.2 f - f - (i + 1)) (by omega) ⟨i + 1, _, by omega, rfl, rfl, RD_upd hR9 (by omega), SO_tr o9 (SO_sI ⟨by omega, by omega⟩)⟩
    · rw [r2, pk_sub heg, li_12, nI_leI (by omega) (by omega)] at hd12
      exact fun w => hd12 w.2.2
end MREADS
