/-! ===== the constructors: the reference; the law ===== -/
section INIT4
variable {S S' S0 S1 : Hp} {o w z k x : Nat}
/-- the words being written -/
def WI (S0 S : Hp) (w k : Nat) : Prop := (sz S = sz S0 ∧ ∀ a, kd S a = kd S0 a ∧ ln S a = ln S0 a) ∧ (∀ f a i, gR S f a i = gR S0 f a i) ∧ (∀ f a i, a ≠ w → gI S f a i = gI S0 f a i) ∧ (kd S w = 20 ∧ ln S w = 28) ∧ ∀ j, j < k → gI S 0 w j = nI (wdT j)
theorem wi_st {P : Hp → Prop} {c v : Int32} (h : WI S0 S w k) (hk : k < 28) (hc : c = nI k) (hv : v = nI (wdT k)) (hP : ∀ S', WI S0 S' w (k + 1) → P S') : kd S w = 20 ∧ vp_in c (ln S w) ∧ ∀ S', S' = sI S 0 w c.toNatClampNeg v → P S' := by
  obtain ⟨⟨h1, h2⟩, h3, h4, ⟨h5, h6⟩, h7⟩ := h
  subst hc hv
  refine ⟨h5, by rw [h6]; exact vp_li hk (by omega), ?_⟩
  rintro _ rfl
  rw [nI_clamp (by omega)]
  refine hP _ ⟨⟨h1, h2⟩, h3, fun f a i ha => ?_, ⟨h5, h6⟩, fun j hj => ?_⟩
  · rw [gI_sI, if_neg (fun q => ha q.2.1)]
    exact h4 f a i ha
  · rw [gI_sI]
    by_cases e : j = k
    · rw [if_pos ⟨rfl, rfl, e⟩, e]
    · rw [if_neg (fun q => e q.2.2)]
      exact h7 j (by omega)
theorem M_init {Q : Hp → Prop} (ho : kd S o = 13) (hs : sz S = o + 1) (hz : ∀ a, o + 1 ≤ a → kd S a = 0) (hI : ∀ f i, gI S f o i = 0) (hQ : ∀ S', Gw S S' o (o + 8) → MS S' o (q0, [], fun _ => 0, 0) → Q S') : wp_X12_init o S Q := by
  have g0 : Gw S S o (o + 1) := by
    have := Gw_rf (S := S) (o := o) (fun a ha => hz a (by omega))
    rw [hs] at this
    exact this
  -- the rows
  refine ⟨by omega, by omega, ?_⟩
  rintro _ rfl _ rfl
  obtain ⟨k1, h1⟩ := ar_st hs (by omega) 193 6930 13 ho
  refine ⟨k1, fun T1 e1 => ?_⟩
  obtain ⟨o1, s1, a1, kl1, r1, i1, j1, G1⟩ := h1 T1 e1
  have g1 := G1 S g0
  clear e1 h1 k1 G1
  have I1 : ∀ f i, gI T1 f o i = 0 := fun f i => (i1 f o i (by omega)).trans (hI f i)
  have Z1 : ∀ i, gI T1 0 (o + 1) i = 0 := fun i => j1 0 i
  -- the text
  refine ⟨by omega, by omega, ?_⟩
  rintro _ rfl _ rfl
  obtain ⟨k2, h2⟩ := ar_st s1 (by omega) 195 200 13 o1
  refine ⟨k2, fun T2 e2 => ?_⟩
  obtain ⟨o2, s2, a2, kl2, r2, i2, j2, G2⟩ := h2 T2 e2
  have g2 := G2 S g1
  clear e2 h2 k2 G2
  have I2 : ∀ f i, gI T2 f o i = 0 := fun f i => (i2 f o i (by omega)).trans (I1 f i)
  have Z2 : ∀ i, gI T2 0 (o + 1) i = 0 := fun i => (i2 0 (o + 1) i (by omega)).trans (Z1 i)
  -- the token
  refine ⟨by omega, by omega, ?_⟩
  rintro _ rfl _ rfl
  obtain ⟨k3, h3⟩ := ar_st s2 (by omega) 202 2 13 o2
  refine ⟨k3, fun T3 e3 => ?_⟩
  obtain ⟨o3, s3, a3, kl3, r3, i3, j3, G3⟩ := h3 T3 e3
  have g3 := G3 S g2
  clear e3 h3 k3 G3
  have I3 : ∀ f i, gI T3 f o i = 0 := fun f i => (i3 f o i (by omega)).trans (I2 f i)
  have Z3 : ∀ i, gI T3 0 (o + 1) i = 0 := fun i => (i3 0 (o + 1) i (by omega)).trans (Z2 i)
  -- the words
  refine ⟨by omega, by omega, fun n10 e10 S11 e11 => ?_⟩
  have s3 : sz T3 = o + 4 := s3
  obtain rfl : n10 = o + 4 := e10.trans s3
  have w0 : WI S11 S11 (o + 4) 0 := by
    rw [e11]
    exact ⟨⟨rfl, fun _ => ⟨rfl, rfl⟩⟩, fun _ _ _ => rfl, fun _ _ _ _ => rfl, ⟨by rw [kd_nw, s3, if_pos rfl], by rw [ln_nw, s3, if_pos rfl]⟩, fun j hj => absurd hj (Nat.not_lt_zero j)⟩
  refine wi_st (c := 0) (v := 97) w0 (by omega) li_0 li_97 (fun W1 w1 => ?_)
  clear w0
  refine wi_st (c := 1) (v := 108) w1 (by omega) li_1 li_108 (fun W2 w2 => ?_)
  clear w1
  refine wi_st (c := 2) (v := 108) w2 (by omega) li_2 li_108 (fun W3 w3 => ?_)
  clear w2
  refine wi_st (c := 3) (v := 0) w3 (by omega) li_3 li_0 (fun W4 w4 => ?_)
  clear w3
  refine wi_st (c := 4) (v := 0) w4 (by omega) li_4 li_0 (fun W5 w5 => ?_)
  clear w4
  refine wi_st (c := 5) (v := 0) w5 (by omega) li_5 li_0 (fun W6 w6 => ?_)
  clear w5
  refine wi_st (c := 6) (v := 0) w6 (by omega) li_6 li_0 (fun W7 w7 => ?_)
  clear w6
  refine wi_st (c := 7) (v := 112) w7 (by omega) li_7 li_112 (fun W8 w8 => ?_)
  clear w7
  refine wi_st (c := 8) (v := 97) w8 (by omega) li_8 li_97 (fun W9 w9 => ?_)
  clear w8
  refine wi_st (c := 9) (v := 99) w9 (by omega) li_9 li_99 (fun W10 w10 => ?_)
  clear w9
  refine wi_st (c := 10) (v := 107) w10 (by omega) li_10 li_107 (fun W11 w11 => ?_)
  clear w10
  refine wi_st (c := 11) (v := 101) w11 (by omega) li_11 li_101 (fun W12 w12 => ?_)
  clear w11
  refine wi_st (c := 12) (v := 116) w12 (by omega) li_12 li_116 (fun W13 w13 => ?_)
  clear w12
  refine wi_st (c := 13) (v := 115) w13 (by omega) li_13 li_115 (fun W14 w14 => ?_)
  clear w13
  refine wi_st (c := 14) (v := 114) w14 (by omega) li_14 li_114 (fun W15 w15 => ?_)
  clear w14
  refine wi_st (c := 15) (v := 111) w15 (by omega) li_15 li_111 (fun W16 w16 => ?_)
  clear w15
  refine wi_st (c := 16) (v := 111) w16 (by omega) li_16 li_111 (fun W17 w17 => ?_)
  clear w16
  refine wi_st (c := 17) (v := 109) w17 (by omega) li_17 li_109 (fun W18 w18 => ?_)
  clear w17
  refine wi_st (c := 18) (v := 0) w18 (by omega) li_18 li_0 (fun W19 w19 => ?_)
  clear w18
  refine wi_st (c := 19) (v := 0) w19 (by omega) li_19 li_0 (fun W20 w20 => ?_)
  clear w19
  refine wi_st (c := 20) (v := 0) w20 (by omega) li_20 li_0 (fun W21 w21 => ?_)
  clear w20
  refine wi_st (c := 21) (v := 112) w21 (by omega) li_21 li_112 (fun W22 w22 => ?_)
  clear w21
  refine wi_st (c := 22) (v := 97) w22 (by omega) li_22 li_97 (fun W23 w23 => ?_)
  clear w22
  refine wi_st (c := 23) (v := 114) w23 (by omega) li_23 li_114 (fun W24 w24 => ?_)
  clear w23
  refine wi_st (c := 24) (v := 116) w24 (by omega) li_24 li_116 (fun W25 w25 => ?_)
  clear w24
  refine wi_st (c := 25) (v := 0) w25 (by omega) li_25 li_0 (fun W26 w26 => ?_)
  clear w25
  refine wi_st (c := 26) (v := 0) w26 (by omega) li_26 li_0 (fun W27 w27 => ?_)
  clear w26
  refine wi_st (c := 27) (v := 0) w27 (by omega) li_27 li_0 (fun W28 w28 => ?_)
  clear w27
  obtain ⟨⟨y1, y2⟩, y3, y4, ⟨y5, y6⟩, y7⟩ := w28
  have g11 : Gw S S11 o (o + 5) := by
    rw [e11]
    exact Gw_nw g3
  have n11 : ∀ a, a ≠ o + 4 → (kd S11 a = kd T3 a ∧ ln S11 a = ln T3 a) ∧ ∀ f i, gI S11 f a i = gI T3 f a i ∧ gR S11 f a i = gR T3 f a i := fun a ha => by
    rw [e11]
    refine ⟨⟨?_, ?_⟩, fun f i => ⟨?_, ?_⟩⟩
    · rw [kd_nw, s3, if_neg ha]
    · rw [ln_nw, s3, if_neg ha]
    · rw [gI_nw, s3, if_neg ha]
    · rw [gR_nw, s3, if_neg ha]
  have o11 : kd W28 o = 13 := by rw [(y2 o).1, (n11 o (by omega)).1.1]; exact o3
  refine ⟨o11, fun T4 e4 => ?_⟩
  have s4 : sz T4 = o + 5 := by
    rw [e4, sz_sR, y1]
    exact g11.2.2.1.1
  have g4 : Gw S T4 o (o + 5) := by
    rw [e4]
    refine Gw_sR (Or.inl rfl) ⟨fun a ha => ?_, fun a ha hne f i => ⟨?_, ?_⟩, ⟨y1.trans g11.2.2.1.1, g11.2.2.1.2⟩, fun a ha => ?_⟩
    · rw [(y2 a).1, (y2 a).2]
      exact g11.1 a ha
    · rw [y4 f a i (by omega)]
      exact (g11.2.1 a ha hne f i).1
    · rw [y3 f a i]
      exact (g11.2.1 a ha hne f i).2
    · rw [(y2 a).1]
      exact g11.2.2.2 a ha
  have o4 : kd T4 o = 13 := by rw [e4]; exact o11
  have kl4 : ∀ a, a ≠ o + 4 → kd T4 a = kd T3 a ∧ ln T4 a = ln T3 a := fun a ha => by
    rw [e4, kd_sR, ln_sR, (y2 a).1, (y2 a).2]
    exact (n11 a ha).1
  have r4 : ∀ f' a i, a ≠ o + 4 → ¬ (f' = 203 ∧ a = o ∧ i = 0) → gR T4 f' a i = gR T3 f' a i := fun f' a i ha hn => by
    rw [e4, gR_sR, if_neg hn, y3]
    exact ((n11 a ha).2 f' i).2
  have i4 : ∀ f' a i, a ≠ o + 4 → gI T4 f' a i = gI T3 f' a i := fun f' a i ha => by
    rw [e4, gI_sR, y4 f' a i ha]
    exact ((n11 a ha).2 f' i).1
  have a4 : AR T4 203 o (o + 4) 20 28 := by
    rw [e4]
    exact ⟨by rw [gR_sR, if_pos ⟨rfl, rfl, rfl⟩], y5, y6⟩
  have Y4 : ∀ j, j < 28 → gI T4 0 (o + 4) j = nI (wdT j) := fun j hj => by
    rw [e4, gI_sR]
    exact y7 j hj
  clear e4 y1 y2 y3 y4 y5 y6 y7 g11 n11 o11 e11 e10
  have I4 : ∀ f i, gI T4 f o i = 0 := fun f i => (i4 f o i (by omega)).trans (I3 f i)
  have Z4 : ∀ i, gI T4 0 (o + 1) i = 0 := fun i => (i4 0 (o + 1) i (by omega)).trans (Z3 i)
  -- the holders
  refine ⟨by omega, by omega, ?_⟩
  rintro _ rfl _ rfl
  obtain ⟨k5, h5⟩ := ar_st s4 (by omega) 204 8 13 o4
  refine ⟨k5, fun T5 e5 => ?_⟩
  obtain ⟨o5, s5, a5, kl5, r5, i5, j5, G5⟩ := h5 T5 e5
  have g5 := G5 S g4
  clear e5 h5 k5 G5
  have I5 : ∀ f i, gI T5 f o i = 0 := fun f i => (i5 f o i (by omega)).trans (I4 f i)
  have Z5 : ∀ i, gI T5 0 (o + 1) i = 0 := fun i => (i5 0 (o + 1) i (by omega)).trans (Z4 i)
  have Y5 : ∀ j, j < 28 → gI T5 0 (o + 4) j = nI (wdT j) := fun j hj => (i5 0 (o + 4) j (by omega)).trans (Y4 j hj)
  -- the curve
  refine ⟨by omega, by omega, ?_⟩
  rintro _ rfl _ rfl
  obtain ⟨k6, h6⟩ := ar_st s5 (by omega) 205 9 13 o5
  refine ⟨k6, fun T6 e6 => ?_⟩
  obtain ⟨o6, s6, a6, kl6, r6, i6, j6, G6⟩ := h6 T6 e6
  have g6 := G6 S g5
  clear e6 h6 k6 G6
  have I6 : ∀ f i, gI T6 f o i = 0 := fun f i => (i6 f o i (by omega)).trans (I5 f i)
  have Z6 : ∀ i, gI T6 0 (o + 1) i = 0 := fun i => (i6 0 (o + 1) i (by omega)).trans (Z5 i)
  have Y6 : ∀ j, j < 28 → gI T6 0 (o + 4) j = nI (wdT j) := fun j hj => (i6 0 (o + 4) j (by omega)).trans (Y5 j hj)
  -- the plans
  refine ⟨by omega, by omega, ?_⟩
  rintro _ rfl _ rfl
  obtain ⟨k7, h7⟩ := ar_st s6 (by omega) 206 287 13 o6
  refine ⟨k7, fun T7 e7 => ?_⟩
  obtain ⟨o7, s7, a7, kl7, r7, i7, j7, G7⟩ := h7 T7 e7
  have g7 := G7 S g6
  clear e7 h7 k7 G7
  have I7 : ∀ f i, gI T7 f o i = 0 := fun f i => (i7 f o i (by omega)).trans (I6 f i)
  have Z7 : ∀ i, gI T7 0 (o + 1) i = 0 := fun i => (i7 0 (o + 1) i (by omega)).trans (Z6 i)
  have Y7 : ∀ j, j < 28 → gI T7 0 (o + 4) j = nI (wdT j) := fun j hj => (i7 0 (o + 4) j (by omega)).trans (Y6 j hj)
  have b6 := AR_kp kl7 r7 (by omega) (by omega) (by omega) a6
  have b5 := AR_kp kl7 r7 (by omega) (by omega) (by omega) (AR_kp kl6 r6 (by omega) (by omega) (by omega) a5)
  have b4 := AR_kp kl7 r7 (by omega) (by omega) (by omega) (AR_kp kl6 r6 (by omega) (by omega) (by omega) (AR_kp kl5 r5 (by omega) (by omega) (by omega) a4))
  have b3 := AR_kp kl7 r7 (by omega) (by omega) (by omega) (AR_kp kl6 r6 (by omega) (by omega) (by omega) (AR_kp kl5 r5 (by omega) (by omega) (by omega) (AR_kp kl4 r4 (by omega) (by omega) (by omega) a3)))
  have b2 := AR_kp kl7 r7 (by omega) (by omega) (by omega) (AR_kp kl6 r6 (by omega) (by omega) (by omega) (AR_kp kl5 r5 (by omega) (by omega) (by omega) (AR_kp kl4 r4 (by omega) (by omega) (by omega) (AR_kp kl3 r3 (by omega) (by omega) (by omega) a2))))
  have b1 := AR_kp kl7 r7 (by omega) (by omega) (by omega) (AR_kp kl6 r6 (by omega) (by omega) (by omega) (AR_kp kl5 r5 (by omega) (by omega) (by omega) (AR_kp kl4 r4 (by omega) (by omega) (by omega) (AR_kp kl3 r3 (by omega) (by omega) (by omega) (AR_kp kl2 r2 (by omega) (by omega) (by omega) a1)))))
  have v0 : vp_in (0 : Int32) (ln T7 (o + 1)) := by rw [b1.2.2]; exact vp_li (n := 0) (by omega) (by omega)
  have v1 : vp_in (1 : Int32) (ln T7 (o + 1)) := by rw [b1.2.2]; exact vp_li (n := 1) (by omega) (by omega)
  refine ⟨o7, o + 1, b1.1, b1.2.1, v0, ?_⟩
  rintro _ rfl
  refine ⟨o7, o + 1, b1.1, b1.2.1, v1, ?_⟩
  rintro _ rfl
  have c0 : ((0 : Int32)).toNatClampNeg = 0 := nI_clamp (n := 0) (by omega)
  have c1 : ((1 : Int32)).toNatClampNeg = 1 := nI_clamp (n := 1) (by omega)
  rw [c0, c1]
  refine hQ _ ?_ ⟨⟨o7, b1, b2, b3, b4, b5, b6, a7⟩, fun i hi => ?_, ⟨?_, Nat.zero_le _, fun j u hj => ?_⟩, ⟨?_, Nat.zero_le _, fun i hi => absurd hi (Nat.not_lt_zero i)⟩, fun i hi => ?_⟩
  · exact Gw_sI (Or.inr (by omega)) (Gw_sI (Or.inr (by omega)) g7)
  · rw [gI_sI]
    by_cases e : i = 1
    · rw [if_pos ⟨rfl, rfl, e⟩, e]
      rfl
    · rw [if_neg (fun q => e q.2.2), gI_sI]
      by_cases e' : i = 0
      · rw [if_pos ⟨rfl, rfl, e'⟩, e']
        rfl
      · rw [if_neg (fun q => e' q.2.2), Z7]
        show (0 : Int32) = nI (q0 i)
        rw [q0_z (by omega)]
        rfl
  · rw [gI_sI, if_neg (by omega), gI_sI, if_neg (by omega), I7]
    rfl
  · exact absurd hj (by intro q; cases q)
  · rw [gI_sI, if_neg (by omega), gI_sI, if_neg (by omega), I7]
    rfl
  · rw [gI_sI, if_neg (by omega), gI_sI, if_neg (by omega)]
    exact Y7 i hi
theorem CS_ci (h : CI S x) (hF : ∀ a, a < x + 103 → Sm S S' a) (hz : (∀ a, sz S' ≤ a → kd S' a = 0) ∧ x + 111 ≤ sz S') : CS S' x (q0, [], fun _ => 0, 0) := by
  obtain ⟨h1, ⟨h2, h3⟩, h4, h5, ⟨h6, h7, h8⟩, ⟨⟨h9, h10, h11⟩, h12, h13⟩, ⟨h14, h15, h16, h17⟩, h18, h19, h20⟩ := h
  have lt : ∀ a, kd S a ≠ 0 → a < x + 103 := fun a ha => by
    rcases Nat.lt_or_ge a (x + 103) with l | l
    · exact l
    · exact absurd (h3 a l) ha
  have F : Fr (fun a => a < x + 103) S S' := ⟨fun a ha => ⟨(hF a (lt a ha)).1, (hF a (lt a ha)).2.1⟩, fun a ha f i => ⟨(hF a ha).2.2.1 f i, (hF a ha).2.2.2 f i⟩⟩
  have z2 : q0 2 = 0 := rfl
  have z93 : q0 93 = 0 := rfl
  have z94 : q0 94 = 0 := rfl
  have z95 : q0 95 = 0 := rfl
  have r29 : x + 29 < x + 103 := by omega
  have r49 : x + 49 < x + 103 := by omega
  refine ⟨CK_tr F.1 (fun f a i ha _ => (hF a (by omega)).2.2.2 f i) h1, hz, ⟨gI_fr F (show x + 1 < x + 103 by omega) h4, fun i hi => absurd hi (Nat.not_lt_zero i)⟩, fun j hj => Or.inl (gI_fr F (show x + 55 + 6 * j < x + 103 by omega) (h5 j hj)), x + 49, 0, fun _ => False, ⟨gR_fr F (show x < x + 103 by omega) h6, Or.inr rfl⟩, ⟨by omega, gI_fr F (show x + 53 < x + 103 by omega) h7, gI_fr F (show x + 53 < x + 103 by omega) h8, Nat.zero_le _⟩, fun a ha => ha.elim, ⟨⟨gI_fr F r29 h9, gI_fr F r29 h10, gI_fr F r29 h11⟩, fun p hp => ⟨x + 31, gR_fr F (show x + 30 < x + 103 by omega) (h12 p hp), kd_fr F (by decide) h13⟩, fun p hp => ?_⟩, ⟨Or.inr ⟨z93, z94⟩, ⟨kd_fr F (by decide) h14, gI_fr F r49 h15, gI_fr F r49 h16, gI_fr F r49 h17⟩, AR_fr F r49 (by decide) h18, AR_fr F r49 (by decide) h19, AR_fr F r49 (by decide) h20, fun p hp => ?_, fun t ht => ?_⟩, trivial⟩
  · exact absurd hp (by show ¬ p < q0 2; rw [z2]; omega)
  · exact absurd hp (by show ¬ p < q0 93; rw [z93]; omega)
  · exact absurd ht (by show ¬ t < q0 94; rw [z94]; omega)
theorem V_q0 : V q0 := by
  have h0 : q0 0 = 4 := rfl
  have h1 : q0 1 = 20 := rfl
  refine ⟨by omega, by omega, ?_, fun p hp => ?_, ⟨?_, ?_, ?_⟩, fun p hp => ?_, fun t ht => ⟨?_, ?_⟩, fun t ht i hi => ⟨?_, ?_⟩⟩
  · rw [q0_z (by omega)]; omega
  · rw [q0_z (by omega)] at hp; omega
  · rw [q0_z (by omega)]; omega
  · rw [q0_z (by omega)]; omega
  · rw [q0_z (by omega)]; omega
  · rw [q0_z (by omega)] at hp; omega
  · rw [q0_z (by omega)]; omega
  · rw [q0_z (by omega)]; omega
  · rw [q0_z (by omega)]; omega
  · rw [q0_z (by omega)]; omega
end INIT4
