section CPLAN
variable {S : Hp} {x : Nat} {σ : Sg} {q : Nat → Nat} {wd : Nat → Prop} {bo : Nat}
theorem C_blames {p s t : Nat} {Q : Int32 → Hp → Prop} (hC : CK S x) (hbo : x + 111 ≤ bo ∨ bo = x + 49) (hB : BoxAt S wd (x + 111) bo q) (hV : V q) (hp : p < q 93) (hs : s < qS q p) (ht : t < q 94) (h1 : ∀ S', Sc x S S' → Blm q t p s → Q 1 S') (h0 : ∀ S', Sc x S S' → ¬ Blm q t p s → Q 0 S') : wp_X3_blames bo (nI p) (nI s) (nI t) (x + 43) S Q := by
  have h8 := hV.2.2.2.2.1
  have hv := hV.2.2.2.2.2.1 p hp
  have hvt := hV.2.2.2.2.2.2.1 t (by omega)
  have hpl := pl_lt hV hp hs
  have hpl2 : q (98 + 3 * p) + s < q 95 := by
    have := hv.2.2
    unfold qS at hs
    omega
  have hl := hol_le q (q (98 + 3 * p) + s) (q 94)
  obtain ⟨g0, ⟨g1, g2, g3, g4⟩, g5, g6, ⟨g7, g7', g7''⟩, g8, g9⟩ := id hB
  obtain ⟨⟨b1, b2, b3, b4, b5⟩, b6, b7, b8⟩ := g9 t ht
  refine ⟨g1, _, g6.1, g6.2.1, by rw [g6.2.2]; exact vp_li (by omega) (by omega), ?_⟩
  rw [nI_clamp (by omega), (g8 p hp).2, nI_add]
  rintro _ rfl
  refine ⟨g1, _, g7, g7', by rw [g7'']; exact vp_li ht (by omega), _, by rw [nI_clamp (by omega)]; exact b1, b2, c_holds b2 b6 b7 (by omega) (by omega) (fun j hj hx hz0 => ⟨fun _ => ⟨g1, ?_⟩, fun w => absurd w (by decide)⟩) (fun hn => ⟨fun w => absurd rfl w, fun _ => ?_⟩)⟩
  · obtain rfl : q (98 + 3 * p) + s = j := nI_inj (by omega) (by omega) hx
    refine c_gather hC hB hV hp hs fun S2 hsc2 hG2 => ?_
    have hC2 := CK_sc hsc2 hC
    refine ⟨hC2.2.2.2.2.2.1.1, c_hasEnough hC2 hG2 (by omega) (by omega) (fun hk => ⟨fun w => absurd w (by decide), fun _ => ⟨hC2.2.2.2.2.2.1.1, c_mend hC2 hG2 (hol_sub h8.2.1) (yv_lt hV hpl) hv.2.1.1 hk (fun S3 c hsc3 hG3 hcm hn => ⟨fun w => absurd w (by decide), fun _ => ?_⟩) (fun S3 hsc3 hno => ⟨fun _ => ⟨Or.inl rfl, h0 S3 (Sc_tr hsc2 hsc3) fun w => hno w.2.2.1⟩, fun w => absurd rfl w⟩)⟩⟩) (fun hk => ⟨fun _ => ⟨Or.inl rfl, h0 S2 hsc2 fun w => hk w.2.1⟩, fun w => absurd rfl w⟩)⟩
    have hsc := Sc_tr hsc2 hsc3
    have hC3 := CK_sc hsc hC
    have hB3 := BoxAt_sc hsc hbo hB
    obtain ⟨-, ⟨e1, e2, e3, e4⟩, -, -, ⟨e7, e7', e7''⟩, -, e9⟩ := id hB3
    obtain ⟨⟨d1, d2, d3, d4, d5⟩, d6, d7, d8⟩ := e9 t ht
    obtain ⟨-, -, -, -, -, ⟨c1, c2, c3, c4, c5, c6⟩, -⟩ := id hC3
    refine ⟨c1, c1, c1, _, c6.1, ?_⟩
    rw [hG3.2.1, nI_1]
    refine c_valueAt (fr := 0) (c := c) c6.2.1 c6.2.2 (by omega) (by omega) (by omega) (by omega) (fun j hj _ => by rw [Nat.zero_add]; exact hn j hj) (fun j hj w => absurd (by omega) w) hcm.1 ⟨e1, _, e7, e7', by rw [e7'']; exact vp_li ht (by omega), _, by rw [nI_clamp (by omega)]; exact d1, d2, _, d4.1, d4.2.1, by rw [d4.2.2]; exact vp_li (by omega) (by omega), ?_⟩
    have hyl := yv_lt hV hpl t (by omega)
    have ha := at29_lt c (q (97 + 3 * p)) (t + 1)
    have hy2 : gI S3 0 (bo + 6 + 3 * t) (nI (q (98 + 3 * p) + s)).toNatClampNeg = nI (yv q (q (98 + 3 * p) + s) t) := by
      rw [nI_clamp (by omega)]
      exact (d8 _ hpl2).2
    have hiff : at29 c (q (97 + 3 * p)) (t + 1) = at29 (mndC q (q (98 + 3 * p) + s) (q (97 + 3 * p))) (q (97 + 3 * p)) (t + 1) := at29_cg (mndC_eq h8.2.1 hk hcm)
    rw [hy2, nI_eq (by omega) (by omega)]
    refine ⟨fun e => ⟨Or.inl rfl, h0 S3 hsc fun w => w.2.2.2 (hiff.symm.trans e)⟩, fun e => ⟨Or.inr rfl, h1 S3 hsc ⟨⟨hz0, hj⟩, hk, ⟨c, hcm⟩, fun w => e (hiff.trans w)⟩⟩⟩
  · exact h0 S (Sc_rf x S) fun w => hn ⟨w.1.1, (vp_nI (by omega)).mpr w.1.2⟩
theorem C_blamed {Q : Int32 → Hp → Prop} {tt : Int32} (hS : CS S x σ) (hV : V σ.1) (h : ∀ S', CS S' x σ → KO x S S' → Q (oBlamed σ.1 tt) S') : wp_X11_blamed x tt S Q := by
  obtain ⟨hC, hz, ht, h01, bo, nx, wd, ⟨hb, hbo⟩, -, -, hL, hB, -⟩ := id hS
  obtain ⟨⟨f0, f1, f2, f3, f4, f5, f6⟩, -⟩ := id hC
  have h8 := hV.2.2.2.2.1
  have h0 : Q (oBlamed σ.1 tt) S := h S hS (KO_rf x S)
  unfold oBlamed at h h0
  obtain ⟨g0, ⟨g1, g2, g3, g4⟩, -⟩ := id hB
  refine ⟨f0, _, hb, g1, c_hasPacket g1 g3 h8.2.1 (fun t ht hp => ⟨fun w => absurd w (by decide), fun _ => ⟨f0, f0, _, f6, _, hb, g1, ?_⟩⟩) (fun hn => ⟨fun _ => ?_, fun w => absurd rfl w⟩)⟩
  · subst hp
    rw [if_pos ((okN_nI (by omega)).mpr ht), tn_nI (by omega)] at h
    have hfin : ∀ S', Sc x S S' → Q (nI (blB σ.1 t (σ.1 93))) S' := fun S' hsc => h S' (CS_sc hsc hS) (Sc_KO hsc)
    generalize σ.1 = q at *
    refine Lp_of (fun n z => ∃ p S', p ≤ q 93 ∧ n = q 93 - p ∧ z = (nI (blB q t p), nI p, S') ∧ Sc x S S') (fun n z hz K hK => ?_) (n := q 93) (x := (nI 0, nI 0, S)) ⟨0, S, by omega, rfl, rfl, Sc_rf x S⟩
    obtain ⟨p, S1, hp, rfl, rfl, hsc⟩ := hz
    have hB1 := BoxAt_sc hsc hbo hB
    have e1 := hB1.2.1.1
    refine ⟨e1, fun hc => ?_, fun hc => ?_⟩
    · dsimp only at hc ⊢
      rw [hB1.2.1.2.1, nI_leI (by omega) (by omega)] at hc
      obtain rfl : p = q 93 := by omega
      exact hfin S1 hsc
    · dsimp only at hc ⊢
      rw [hB1.2.1.2.1, nI_leI (by omega) (by omega)] at hc
      have hqs := qS_le hV (p := p) (by omega)
      refine Lp_of (fun n z => ∃ s S', s ≤ qS q p ∧ n = qS q p - s ∧ z = (nI (blB q t p + blA q t p s), nI s, S') ∧ Sc x S S') (fun n z hz K2 hK2 => ?_) (n := qS q p) (x := (nI (blB q t p), nI 0, S1)) ⟨0, S1, by omega, rfl, rfl, hsc⟩
      obtain ⟨s, S2, hs, rfl, rfl, hsc2⟩ := hz
      have hB2 := BoxAt_sc hsc2 hbo hB
      obtain ⟨-, ⟨d1, -⟩, d5, -, -, d8, -⟩ := id hB2
      obtain ⟨⟨a, a1, a2, a3, a4, wo, a5, a6⟩, a7⟩ := d8 p (by omega)
      refine ⟨d1, _, d5.1, d5.2.1, by rw [d5.2.2]; exact vp_li (by omega) (by omega), a, by rw [nI_clamp (by omega)]; exact a1, a3, c_stripesQ hV (by omega) a3 a6 a4 ⟨fun hd => ?_, fun hd => ⟨d1, ?_⟩⟩⟩
      · dsimp only at hd ⊢
        rw [nI_leI (by omega) (by omega)] at hd
        obtain rfl : s = qS q p := by omega
        rintro _ rfl
        rw [nI_1]
        exact hK _ (q 93 - (p + 1)) (by omega) ⟨p + 1, S2, by omega, rfl, rfl, hsc2⟩
      · dsimp only at hd ⊢
        rw [nI_leI (by omega) (by omega)] at hd
        refine C_blames (CK_sc hsc2 hC) hbo hB2 hV (by omega) (by omega) ht (fun S3 hsc3 hbl => ⟨fun w => absurd w (by decide), fun _ => ?_⟩) (fun S3 hsc3 hbl => ⟨fun _ => ?_, fun w => absurd rfl w⟩)
        · rintro _ rfl _ rfl
          rw [nI_1, nI_1]
          refine hK2 _ (qS q p - (s + 1)) (by omega) ⟨s + 1, S3, by omega, rfl, ?_, Sc_tr hsc2 hsc3⟩
          rw [blA, cI_pos hbl]
          rfl
        · rintro _ rfl
          rw [nI_1]
          refine hK2 _ (qS q p - (s + 1)) (by omega) ⟨s + 1, S3, by omega, rfl, ?_, Sc_tr hsc2 hsc3⟩
          rw [blA, cI_neg hbl]
          rfl
  · rw [if_neg (fun w => hn (okN_vp.mpr w))] at h0
    exact h0
/-! ===== the planner ===== -/
theorem LineAt_sc {S' : Hp} {la : Nat} (h : Sc x S S') (hl : la = x + 29) (hL : LineAt S wd (x + 111) la q) : LineAt S' wd (x + 111) la q := LineAt_fr (Sc_fr h) (fun a _ _ _ => by omega) (fun _ w => w) (by omega) (by omega) hL
theorem cw_le (hV : V q) {M : Nat} {F : Nat → Nat} {p k r : Nat} (hp : p < q 2) (hk : k ≤ 8) (hF : ∀ r, F r ≤ M) : cw q M F p k r ≤ M + 72 := by
  have hw := (hV.2.2.2.1 p hp).2.2.1.2
  have hm : q (5 + 15 * p) * k ≤ 9 * 8 := Nat.mul_le_mul hw hk
  unfold cw
  split
  · omega
  · have := hF (r - stN (q (3 + 15 * p)) k)
    omega
theorem c_costWith {a p k r : Nat} {Q : Int32 → Prop} (hC : CK S x) (hV : V q) (hp : p < q 2) (hP : PartAt S wd (x + 111) a (q (3 + 15 * p)) (q (4 + 15 * p)) (q (5 + 15 * p)) (fun i => q (6 + 15 * p + i))) (hk1 : 1 ≤ k) (hk8 : k ≤ 8) (hr : r ≤ q 1) (hg : ∀ r, r ≤ q 1 → gI S 0 (x + 35 + (p + 1)) r = nI (bm q 1000000 (q 2 - 1 - p) r)) (h : Q (nI (min 1000000 (cw q 1000000 (bm q 1000000 (q 2 - 1 - p)) p k r)))) : wp_X6_costWith (x + 33) a (nI k) (nI p) (nI r) S Q := by
  obtain ⟨-, -, -, -, ⟨j1, j2, j3, j4⟩, -⟩ := id hC
  obtain ⟨p0, p1, p2, p3, w, p4, p5, p6, p7⟩ := hP
  have hv := hV.2.2.2.1 p hp
  have h6 := hV.2.2.1
  have h40 := hV.2.1.2
  have hst := stN_le (l := q (3 + 15 * p)) (k := k) hv.1.2 hk1
  obtain ⟨q1, q2, q3⟩ := j4 (p + 1) (by omega)
  refine ⟨p1, w, p6.1, p6.2.1, ?_⟩
  rw [p6.2.2, of_nI]
  refine c_stripesFor hv.1.2 hk1 hk8 ?_
  rintro _ rfl
  unfold cw at h
  by_cases hlt : r < stN (q (3 + 15 * p)) k
  · rw [if_pos hlt, Nat.min_self] at h
    refine ⟨fun hc => ?_, fun _ => h⟩
    rw [Int32.le_iff_toInt_le, pk_sub_toInt (by omega) (by omega)] at hc
    have : (0 : Int32).toInt = 0 := rfl
    omega
  · rw [if_neg hlt] at h
    rw [pk_sub (by omega)]
    have hm : q (5 + 15 * p) * k ≤ 9 * 8 := Nat.mul_le_mul hv.2.2.1.2 hk8
    have hbl := bm_le q 1000000 (q 2 - 1 - p) (r - stN (q (3 + 15 * p)) k)
    refine ⟨fun _ => ⟨p1, j1, _, j2.1, j2.2.1, by rw [nI_1, j2.2.2]; exact vp_li (by omega) (by omega), x + 35 + (p + 1), by rw [nI_1, nI_clamp (by omega)]; exact q1, q2, by rw [q3]; exact vp_li (by omega) (by omega), ?_⟩, fun hc => absurd (nI_pos' (by omega)) hc⟩
    rw [p3, pk_mul, nI_clamp (by omega), hg _ (by omega), nI_add, li_1000000]
    exact j_min (by omega) (by omega) h
theorem c_leastFrom {p r : Nat} {Q : Int32 → Prop} (hC : CK S x) (hL : LineAt S wd (x + 111) (x + 29) q) (hV : V q) (hp : p < q 2) (hr : r ≤ q 1) (hg : ∀ r, r ≤ q 1 → gI S 0 (x + 35 + (p + 1)) r = nI (bm q 1000000 (q 2 - 1 - p) r)) (h : Q (nI (bm q 1000000 (q 2 - p) r))) : wp_X6_leastFrom (x + 33) (x + 29) (nI p) (nI r) S Q := by
  obtain ⟨-, -, -, ⟨i1, i2⟩, ⟨j1, j2, j3, j4⟩, -⟩ := id hC
  have h6 := hV.2.2.1
  have h0 := hV.1
  obtain ⟨a, ha, hP⟩ := hL.2.2 p hp
  refine Lp_for (fun k => (nI (mnK q 1000000 (bm q 1000000 (q 2 - 1 - p)) p r k), nI (k + 1))) (q 0) (fun k hk K hK => ?_) (fun K => ?_) (i := 0) (by omega)
  · refine ⟨i1, fun hc => ?_, fun _ => ⟨i1, _, i2.1, i2.2.1, by rw [i2.2.2]; exact vp_li (by omega) (by omega), a, by rw [nI_clamp (by omega)]; exact ha, j1, c_costWith hC hV hp hP (by omega) (by omega) hr hg ?_⟩⟩
    · dsimp only at hc
      rw [hL.1.2.1, nI_ltI (by omega) (by omega)] at hc
      omega
    · have hml := mnK_le q 1000000 (bm q 1000000 (q 2 - 1 - p)) p r k
      refine j_min (by omega) (by omega) ?_
      rintro _ rfl
      dsimp only
      rw [nI_1]
      have e : min (mnK q 1000000 (bm q 1000000 (q 2 - 1 - p)) p r k) (min 1000000 (cw q 1000000 (bm q 1000000 (q 2 - 1 - p)) p (k + 1) r)) = mnK q 1000000 (bm q 1000000 (q 2 - 1 - p)) p r (k + 1) := by
        rw [mnK]
        omega
      rw [e]
      exact hK
  · refine ⟨i1, fun _ => ?_, fun hc => ?_⟩
    · dsimp only
      rw [← bm_s hp]
      exact h
    · dsimp only at hc
      rw [hL.1.2.1] at hc
      exact absurd (nI_lt (Nat.lt_succ_self _) (by omega)) hc
theorem NK_two (hV : V q) {p r k : Nat} (hp : p < q 2) (hf : bm q 100000 (q 2 - p) r < 100000) (hk8 : k ≤ 8) (h : NK q 100000 p r k) : ∀ k', 1 ≤ k' → k' ≤ k → (min 1000000 (cw q 1000000 (bm q 1000000 (q 2 - 1 - p)) p k' r) = bm q 1000000 (q 2 - p) r ↔ k' = k) := by
  have h6 := hV.2.2.1
  intro k' h1 h2
  have hb := bm_two hV (M := 100000) (N := 1000000) (by omega) (by omega) (q 2 - p) (by omega) r
  have hF := bm_two hV (M := 100000) (N := 1000000) (by omega) (by omega) (q 2 - 1 - p) (by omega)
  have hc := cw_two hV hp hF k' r (by omega)
  have hb2 : bm q 100000 (q 2 - p) r = bm q 1000000 (q 2 - p) r ∧ bm q 100000 (q 2 - p) r ≤ 72 * (q 2 - p) := by omega
  constructor
  · intro e
    have : cw q 100000 (bm q 100000 (q 2 - 1 - p)) p k' r = bm q 100000 (q 2 - p) r := by omega
    rcases Nat.lt_or_ge k' k with g | g
    · exact absurd this (h.2.2 k' h1 g)
    · omega
  · intro e
    subst e
    have := h.2.1
    omega
theorem C_choose {Q : Hp → Prop} (hC : CK S x) (hL : LineAt S wd (x + 111) (x + 29) q) (hV : V q) (hfit : bm q 100000 (q 2) (q 1) < 100000) (hg : ∀ p, p ≤ q 2 → ∀ r, r ≤ q 1 → gI S 0 (x + 35 + p) r = nI (bm q 1000000 (q 2 - p) r)) (h : ∀ S', Sc x S S' → (∀ f a i, ¬ (f = 0 ∧ a = x + 42) → gI S' f a i = gI S f a i) → (∀ p, p < q 2 → gI S' 0 (x + 42) p = nI (kS q p (rmS q p))) → Q S') : wp_X6_chooseNeeds (x + 33) (x + 29) S Q := by
  obtain ⟨-, -, -, ⟨i1, i2⟩, ⟨j1, j2, j3, j4⟩, -⟩ := id hC
  have h6 := hV.2.2.1
  have h0 := hV.1
  have h40 := hV.2.1.2
  refine ⟨i1, ?_⟩
  rw [hL.1.2.2]
  rintro _ rfl
  refine Lp_of (fun n z => ∃ p S', p ≤ q 2 ∧ n = q 2 - p ∧ z = (nI (rmS q p), nI p, S') ∧ Sc x S S' ∧ (∀ f a i, ¬ (f = 0 ∧ a = x + 42) → gI S' f a i = gI S f a i) ∧ ∀ p', p' < p → gI S' 0 (x + 42) p' = nI (kS q p' (rmS q p'))) (fun n z hz K hK => ?_) (n := q 2) (x := (nI (q 1), nI 0, S)) ⟨0, S, by omega, rfl, rfl, Sc_rf x S, fun _ _ _ _ => rfl, fun p' hp' => by omega⟩
  obtain ⟨p, S1, hp, rfl, rfl, hsc, hun, hdone⟩ := hz
  obtain ⟨sk, ssz, sr, si⟩ := id hsc
  have hC1 := CK_sc hsc hC
  have hL1 := LineAt_sc hsc rfl hL
  refine ⟨((sk _).1).trans i1, fun hc => ?_, fun hc => ?_⟩
  · dsimp only at hc ⊢
    rw [hL1.1.1, nI_leI (by omega) (by omega)] at hc
    obtain rfl : p = q 2 := by omega
    exact h S1 hsc hun hdone
  · dsimp only at hc ⊢
    rw [hL1.1.1, nI_leI (by omega) (by omega)] at hc
    have hrm := rm_le (q := q) p
    have hok := rm_ok hfit p (by omega)
    obtain ⟨k, hk0, hk⟩ := NK_ex (by omega) hok
    have hke := kS_eq hk
    have hk2 := NK_two hV (by omega) hok (by omega) hk
    obtain ⟨a, ha, hP⟩ := hL1.2.2 p (by omega)
    obtain ⟨p0, p1, p2, p3, w, p4, p5, p6, p7⟩ := id hP
    have hvp := hV.2.2.2.1 p (by omega)
    have hge : stN (q (3 + 15 * p)) k ≤ rmS q p := by
      have := hk.2.1
      rw [← this] at hok
      unfold cw at hok
      split at hok <;> omega
    have eg : ∀ p, p ≤ q 2 → ∀ r, r ≤ q 1 → gI S1 0 (x + 35 + p) r = nI (bm q 1000000 (q 2 - p) r) := fun p hp r hr => (hun _ _ _ (by omega)).trans (hg p hp r hr)
    obtain ⟨l1, l2, l3⟩ := hC1.2.2.2.2.1.2.2.2 p (by omega)
    -- the end of a part
    have fin : wp_X6_chooseNeeds_58 (fun w0 w1 w2 => K (w0, w1, w2)) Q (x + 33) (x + 29) (nI (rmS q p)) (nI p) (nI k) S1 := by
      refine ⟨((sk _).1).trans j1, _, (sr _ _ _).trans j3.1, ((sk _).1).trans j3.2.1, by rw [(sk _).2, j3.2.2]; exact vp_li (by omega) (by omega), ?_⟩
      rintro _ rfl
      refine ⟨((sk _).1).trans i1, _, (sr _ _ _).trans i2.1, ((sk _).1).trans i2.2.1, by rw [ln_sI, (sk _).2, i2.2.2]; exact vp_li (by omega) (by omega), a, by rw [nI_clamp (by omega), gR_sI]; exact ha, p1, w, p6.1, p6.2.1, ?_⟩
      rw [ln_sI, p6.2.2, of_nI, nI_clamp (by omega)]
      refine c_stripesFor hvp.1.2 hk.1 (by omega) ?_
      rw [pk_sub hge]
      refine j_max (a := 0) (by omega) (by omega) ?_
      rw [show max 0 (rmS q p - stN (q (3 + 15 * p)) k) = rmS q p - stN (q (3 + 15 * p)) k by omega]
      rintro _ rfl
      rw [nI_1]
      refine hK _ (q 2 - (p + 1)) (by omega) ⟨p + 1, _, by omega, rfl, by rw [rmS, hke], Sc_tr hsc (Sc_sI (by omega)), fun f a i hfa => by rw [gI_sI, if_neg (by omega)]; exact hun f a i hfa, fun p' hp' => ?_⟩
      by_cases e : p' = p
      · subst e
        rw [gI_sI, if_pos ⟨rfl, rfl, rfl⟩, hke]
      · rw [gI_sI, if_neg (by omega)]
        exact hdone p' (by omega)
    refine Lp_of (fun n z => ∃ j, 1 ≤ j ∧ j ≤ k ∧ n = k - j ∧ z = (nI j, S1)) (fun n z hz K2 hK2 => ?_) (n := k - 1) (x := (nI 1, S1)) ⟨1, Nat.le_refl _, hk.1, rfl, rfl⟩
    obtain ⟨j, hj1, hjk, rfl, rfl⟩ := hz
    refine ⟨((sk _).1).trans i1, fun hd => ?_, fun hd => ⟨((sk _).1).trans i1, _, (sr _ _ _).trans i2.1, ((sk _).1).trans i2.2.1, by rw [(sk _).2, i2.2.2]; exact vp_li (by omega) (by omega), a, by rw [nI_clamp (by omega)]; exact ha, ((sk _).1).trans j1, ?_⟩⟩
    · dsimp only at hd ⊢
      rw [hL1.1.2.1, nI_leI (by omega) (by omega)] at hd
      obtain rfl : j = k := by omega
      exact fin
    · dsimp only at hd ⊢
      refine c_costWith hC1 hV (by omega) hP hj1 (by omega) (by omega) (fun r hr => by rw [eg (p + 1) (by omega) r hr, show q 2 - (p + 1) = q 2 - 1 - p by omega]) ⟨((sk _).1).trans j1, _, (sr _ _ _).trans j2.1, ((sk _).1).trans j2.2.1, by rw [(sk _).2, j2.2.2]; exact vp_li (by omega) (by omega), _, by rw [nI_clamp (by omega)]; exact l1, l2, by rw [l3]; exact vp_li (by omega) (by omega), ?_⟩
      have hbl := bm_le q 1000000 (q 2 - p) (rmS q p)
      rw [nI_clamp (by omega), eg p (by omega) _ (by omega), nI_eq (by omega) (by omega), hk2 j hj1 hjk]
      refine ⟨fun e => ?_, fun e => ?_⟩
      · subst e
        exact fin
      · rintro _ rfl
        rw [nI_1]
        exact hK2 _ (k - (j + 1)) (by omega) ⟨j + 1, by omega, by omega, rfl, rfl⟩
theorem C_makePlan {Q : Int32 → Hp → Prop} (hC : CK S x) (hL : LineAt S wd (x + 111) (x + 29) q) (hV : V q) (h1 : ∀ S', Sc x S S' → bm q 100000 (q 2) (q 1) < 100000 → gI S' 99 (x + 33) 0 = nI (bm q 100000 (q 2) (q 1)) → (∀ p, p < q 2 → gI S' 0 (x + 42) p = nI (kS q p (rmS q p))) → Q 1 S') (h0 : ∀ S', Sc x S S' → ¬ bm q 100000 (q 2) (q 1) < 100000 → Q 0 S') : wp_X6_makePlan (x + 33) (x + 29) S Q := by
  obtain ⟨-, -, -, ⟨i1, i2⟩, ⟨j1, j2, j3, j4⟩, -⟩ := id hC
  have h6 := hV.2.2.1
  have hn0 := hV.1
  have h40 := hV.2.1.2
  refine ⟨i1, ?_⟩
  rw [hL.1.1]
  rintro _ rfl
  have main : ∀ i S0, i ≤ q 2 → Sc x S S0 → (∀ p, i ≤ p → p ≤ q 2 → ∀ r, r ≤ q 1 → gI S0 0 (x + 35 + p) r = nI (bm q 1000000 (q 2 - p) r)) → wp_X6_makePlan_32 Q (x + 33) (x + 29) (dn i) S0 := by
    intro i S0 hi hsc0 hg0
    refine Lp_of (fun n z => ∃ i S', i ≤ q 2 ∧ i = n ∧ z = (dn i, S') ∧ Sc x S S' ∧ (∀ p, i ≤ p → p ≤ q 2 → ∀ r, r ≤ q 1 → gI S' 0 (x + 35 + p) r = nI (bm q 1000000 (q 2 - p) r))) (fun n z hz K hK => ?_) (n := i) (x := (dn i, S0)) ⟨i, S0, hi, rfl, rfl, hsc0, hg0⟩
    obtain ⟨i, S1, hi, rfl, rfl, hsc, hg⟩ := hz
    obtain ⟨sk, ssz, sr, si⟩ := id hsc
    have hC1 := CK_sc hsc hC
    have hL1 := LineAt_sc hsc rfl hL
    refine ⟨fun hc => ?_, fun hc => ?_⟩
    · dsimp only at hc ⊢
      rw [dn_lt0 (by omega)] at hc
      subst hc
      obtain ⟨l1, l2, l3⟩ := hC1.2.2.2.2.1.2.2.2 0 (by omega)
      have hbl := bm_le q 1000000 (q 2) (q 1)
      have hg00 := hg 0 (Nat.le_refl _) (by omega) (q 1) (Nat.le_refl _)
      rw [Nat.add_zero, Nat.sub_zero] at hg00
      rw [Nat.add_zero] at l1 l2 l3
      refine ⟨((sk _).1).trans j1, _, (sr _ _ _).trans j2.1, ((sk _).1).trans j2.2.1, by rw [(sk _).2, j2.2.2]; exact vp_li (n := 0) (by omega) (by omega), ((sk _).1).trans i1, _, l1, l2, by rw [hL1.1.2.2, l3]; exact vp_li (by omega) (by omega), ((sk _).1).trans j1, ?_⟩
      rw [hL1.1.2.2, nI_clamp (by omega), hg00]
      rintro _ rfl
      have e99 : gI (sI S1 99 (x + 33) 0 (nI (bm q 1000000 (q 2) (q 1)))) 99 (x + 33) 0 = nI (bm q 1000000 (q 2) (q 1)) := by rw [gI_sI, if_pos ⟨rfl, rfl, rfl⟩]
      have hsc2 : Sc x S (sI S1 99 (x + 33) 0 (nI (bm q 1000000 (q 2) (q 1)))) := Sc_tr hsc (Sc_sI (by omega))
      have htwo := bm_two hV (M := 100000) (N := 1000000) (by omega) (by omega) (q 2) (Nat.le_refl _) (q 1)
      refine ⟨((sk _).1).trans j1, fun hd => ⟨((sk _).1).trans j1, ?_⟩, fun hd => ?_⟩
      · rw [e99, li_1000000, nI_ltI (by omega) (by omega)] at hd
        have hfit : bm q 100000 (q 2) (q 1) < 100000 := by omega
        refine C_choose (CK_sc hsc2 hC) (LineAt_sc hsc2 rfl hL) hV hfit (fun p hp r hr => ?_) fun S3 hsc3 hun3 hk3 => h1 S3 (Sc_tr hsc2 hsc3) hfit ?_ hk3
        · rw [gI_sI, if_neg (by omega)]
          exact hg p (by omega) hp r hr
        · rw [hun3 _ _ _ (by omega), e99]
          congr 1
          omega
      · rw [e99, li_1000000, nI_ltI (by omega) (by omega)] at hd
        exact h0 _ hsc2 (by omega)
    · dsimp only at hc ⊢
      rw [dn_lt0 (by omega)] at hc
      obtain ⟨p, rfl⟩ : ∃ p, i = p + 1 := ⟨i - 1, by omega⟩
      rw [dn_s]
      refine Lp_of (fun n z => ∃ r S', r ≤ q 1 + 1 ∧ n = q 1 + 1 - r ∧ z = (nI r, S') ∧ Sc x S S' ∧ (∀ p', p + 1 ≤ p' → p' ≤ q 2 → ∀ r, r ≤ q 1 → gI S' 0 (x + 35 + p') r = nI (bm q 1000000 (q 2 - p') r)) ∧ ∀ r', r' < r → gI S' 0 (x + 35 + p) r' = nI (bm q 1000000 (q 2 - p) r')) (fun n z hz K2 hK2 => ?_) (n := q 1 + 1) (x := (nI 0, S1)) ⟨0, S1, by omega, rfl, rfl, hsc, hg, fun r' hr' => by omega⟩
      obtain ⟨r, S2, hr, rfl, rfl, hsc2, hg2, hr2⟩ := hz
      obtain ⟨sk2, ssz2, sr2, si2⟩ := id hsc2
      have hC2 := CK_sc hsc2 hC
      have hL2 := LineAt_sc hsc2 rfl hL
      obtain ⟨l1, l2, l3⟩ := hC2.2.2.2.2.1.2.2.2 p (by omega)
      refine ⟨((sk2 _).1).trans i1, fun hd => ?_, fun hd => ⟨((sk2 _).1).trans j1, _, (sr2 _ _ _).trans j2.1, ((sk2 _).1).trans j2.2.1, by rw [(sk2 _).2, j2.2.2]; exact vp_li (by omega) (by omega), ((sk2 _).1).trans j1, _, by rw [nI_clamp (by omega)]; exact l1, ?_⟩⟩
      · dsimp only at hd ⊢
        rw [hL2.1.2.2, nI_ltI (by omega) (by omega)] at hd
        rintro _ rfl
        rw [dn_m]
        refine hK _ p (by omega) ⟨p, S2, by omega, rfl, rfl, hsc2, fun p' a1 a2 r' hr' => ?_⟩
        by_cases e : p' = p
        · subst e
          exact hr2 r' (by omega)
        · exact hg2 p' (by omega) a2 r' hr'
      · dsimp only at hd ⊢
        rw [hL2.1.2.2, nI_ltI (by omega) (by omega)] at hd
        refine c_leastFrom hC2 hL2 hV (by omega) (by omega) (fun r hr => by rw [hg2 (p + 1) (by omega) (by omega) r hr, show q 2 - (p + 1) = q 2 - 1 - p by omega]) ⟨l2, by rw [l3]; exact vp_li (by omega) (by omega), ?_⟩
        rintro _ rfl _ rfl
        rw [nI_clamp (by omega), nI_1]
        refine hK2 _ (q 1 + 1 - (r + 1)) (by omega) ⟨r + 1, _, by omega, rfl, rfl, Sc_tr hsc2 (Sc_sI (by omega)), fun p' a1 a2 r' hr' => ?_, fun r' hr' => ?_⟩
        · rw [gI_sI, if_neg (by omega)]
          exact hg2 p' a1 a2 r' hr'
        · by_cases e : r' = r
          · subst e
            rw [gI_sI, if_pos ⟨rfl, rfl, rfl⟩]
          · rw [gI_sI, if_neg (by omega)]
            exact hr2 r' (by omega)
  refine Lp_of (fun n z => ∃ r S', r ≤ 41 ∧ n = 41 - r ∧ z = (nI r, S') ∧ Sc x S S' ∧ ∀ r', r' < r → gI S' 0 (x + 35 + q 2) r' = 0) (fun n z hz K hK => ?_) (n := 41) (x := (nI 0, S)) ⟨0, S, by omega, rfl, rfl, Sc_rf x S, fun r' hr' => by omega⟩
  obtain ⟨r, S1, hr, rfl, rfl, hsc, hz0⟩ := hz
  obtain ⟨sk, ssz, sr, si⟩ := id hsc
  obtain ⟨l1, l2, l3⟩ := (CK_sc hsc hC).2.2.2.2.1.2.2.2 (q 2) (by omega)
  refine ⟨fun hc => ?_, fun hc => ⟨((sk _).1).trans j1, _, (sr _ _ _).trans j2.1, ((sk _).1).trans j2.2.1, by rw [(sk _).2, j2.2.2]; exact vp_li (by omega) (by omega), _, by rw [nI_clamp (by omega)]; exact l1, l2, ?_, ?_⟩⟩
  · dsimp only at hc ⊢
    rw [li_40, nI_ltI (by omega) (by omega)] at hc
    rintro _ rfl
    refine main (q 2) S1 (Nat.le_refl _) hsc fun p a1 a2 r' hr' => ?_
    obtain rfl : p = q 2 := by omega
    rw [Nat.sub_self]
    exact hz0 r' (by omega)
  · dsimp only at hc ⊢
    rw [li_40, nI_ltI (by omega) (by omega)] at hc
    rw [l3]
    exact vp_li (by omega) (by omega)
  · dsimp only at hc ⊢
    rw [li_40, nI_ltI (by omega) (by omega)] at hc
    rintro _ rfl _ rfl
    rw [nI_clamp (by omega), nI_1]
    refine hK _ (41 - (r + 1)) (by omega) ⟨r + 1, _, by omega, rfl, rfl, Sc_tr hsc (Sc_sI (by omega)), fun r' hr' => ?_⟩
    by_cases e : r' = r
    · subst e
      rw [gI_sI, if_pos ⟨rfl, rfl, rfl⟩]
    · rw [gI_sI, if_neg (by omega)]
      exact hz0 r' (by omega)
theorem C_plan {Q : Int32 → Hp → Prop} {p : Int32} (hS : CS S x σ) (hV : V σ.1) (h : ∀ S', CS S' x σ → KO x S S' → Q (oPlan σ.1 p) S') : wp_X11_plan x p S Q := by
  obtain ⟨hC, hz, ht, h01, bo, nx, wd, ⟨hb, hbo⟩, -, -, hL, hB, -⟩ := id hS
  obtain ⟨⟨f0, f1, f2, f3, f4, f5, f6⟩, -, -, ⟨i1, i2⟩, ⟨j1, j2, j3, j4⟩, -⟩ := id hC
  have h6 := hV.2.2.1
  have h0 : Q (oPlan σ.1 p) S := h S hS (KO_rf x S)
  unfold oPlan at h h0
  refine ⟨f0, _, f3, i1, c_has i1 hL.1.1 h6 (fun j hj hp => ⟨fun _ => ⟨f0, f0, _, f3, _, f5, j1, C_makePlan hC hL hV (fun S' hsc hfit h99 hk => ⟨fun w => absurd w (by decide), fun _ => ?_⟩) (fun S' hsc hfit => ⟨fun _ => ?_, fun w => absurd rfl w⟩)⟩, fun w => absurd w (by decide)⟩) (fun hn => ⟨fun w => absurd rfl w, fun _ => ?_⟩)⟩
  · subst hp
    rw [if_pos ((okN_nI (by omega)).mpr hj), tn_nI (by omega), if_pos hfit] at h
    have hC1 := CK_sc hsc hC
    obtain ⟨⟨e0, -, -, -, -, e5, -⟩, -, -, -, ⟨d1, d2, d3, d4⟩, -⟩ := id hC1
    refine ⟨e0, _, e5, d1, _, d3.1, d3.2.1, by rw [d3.2.2]; exact vp_li (by omega) (by omega), ?_⟩
    rw [nI_clamp (by omega), hk j hj]
    exact h S' (CS_sc hsc hS) (Sc_KO hsc)
  · subst hp
    rw [if_pos ((okN_nI (by omega)).mpr hj), if_neg hfit] at h
    exact h S' (CS_sc hsc hS) (Sc_KO hsc)
  · rw [if_neg (fun w => hn (okN_vp.mpr w))] at h0
    exact h0
end CPLAN
