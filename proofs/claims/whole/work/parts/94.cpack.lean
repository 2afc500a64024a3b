/-! ===== the class: pack, count ===== -/
section CPACK2
variable {S S' : Hp} {x : Nat} {σ : Sg} {q : Nat → Nat}
theorem C_pack {Q : Int32 → Hp → Prop} (hS : CS S x σ) (hV : V σ.1)
    (h1 : σ.1 2 ≠ 0 → fitB σ.1 = true → ∀ S', (∀ q', PackRel σ.1 q' → CS S' x (push σ q')) → KO x S S' → Q (nI (plK σ.1 9)) S')
    (h0 : ¬ (σ.1 2 ≠ 0 ∧ fitB σ.1 = true) → Q (-4) S) : wp_X11_pack x S Q := by
  obtain ⟨hC, hz, ht, h01, bo, nx, wd, ⟨hb, hbo⟩, -, -, hL, hB, -⟩ := id hS
  obtain ⟨⟨f0, f1, f2, f3, f4, f5, f6⟩, -, -, ⟨i1, i2⟩, -, -, m1, m2, m3⟩ := id hC
  have h6 := hV.2.2.1
  refine ⟨f0, _, f3, i1, fun hc => h0 fun w => w.1 ?_, fun hc => ⟨f0, _, f3, i1, C_fits i1 i2 hL hV ⟨fun hbb => ?_, fun hbb => h0 fun w => ?_⟩⟩⟩
  · rw [hL.1.1] at hc
    exact nI_inj (by omega) (by omega) (hc.trans li_0)
  · have hne : σ.1 2 ≠ 0 := fun w => hc (by rw [hL.1.1, w]; rfl)
    have hfit : fitB σ.1 = true := by
      cases hq : fitB σ.1
      · rw [hq] at hbb
        exact absurd rfl hbb
      · rfl
    obtain ⟨fl, fn⟩ := (fit_iff hV).mp hfit
    replace h1 := h1 hne hfit
    have h40 := hV.2.1.2
    have hn8 := hV.1
    refine ⟨f0, f0, f0, _, f3, _, hb, _, f4, m1, c_keepN hS hV hb fun S1 hK => ⟨by omega, by omega, ?_⟩⟩
    obtain ⟨hC1, ⟨hs, hk, hln⟩, hko, bo1, nx1, wd1, hnx1, hb1, hbo1, hL1, hB1, hwk1, hfin⟩ := hK
    obtain ⟨⟨g0, -, -, g3, -⟩, -, -, ⟨c1, c2, c3, c4⟩, -⟩ := id hC1
    have hz1 : ∀ a, sz S1 ≤ a → kd S1 a = 0 := fun a ha => by
      rw [hk]
      exact hz.1 a (by omega)
    have hzz : x + 111 ≤ sz S1 := by rw [hs]; exact hz.2
    rintro _ rfl _ rfl
    generalize hbz : sz S1 = bz at *
    have nk : ∀ a, kd (nw S1 4 0) a = if a = bz then 4 else kd S1 a := fun a => by rw [kd_nw, hbz]
    have nl : ∀ a, ln (nw S1 4 0) a = if a = bz then 0 else ln S1 a := fun a => by rw [ln_nw, hbz]
    have ni : ∀ f a i, gI (nw S1 4 0) f a i = if a = bz then 0 else gI S1 f a i := fun f a i => by rw [gI_nw, hbz]
    have nr : ∀ f a i, gR (nw S1 4 0) f a i = if a = bz then none else gR S1 f a i := fun f a i => by rw [gR_nw, hbz]
    have ns : sz (nw S1 4 0) = bz + 1 := by rw [sz_nw, hbz]
    generalize nw S1 4 0 = S2 at *
    have lt : ∀ a, kd S1 a ≠ 0 → a < bz := fun a ha => by
      rcases Nat.lt_or_ge a bz with w | w
      · exact w
      · exact absurd (hz1 a w) ha
    have sm2 : ∀ a, a < bz → Sm S1 S2 a := fun a ha => ⟨by rw [nk, if_neg (by omega)], by rw [nl, if_neg (by omega)], fun f i => by rw [ni, if_neg (by omega)], fun f i => by rw [nr, if_neg (by omega)]⟩
    have l29 := sm2 (x + 29) (by omega)
    have l30 := sm2 (x + 30) (by omega)
    have lx := sm2 x (by omega)
    have hX : PX S2 bz (x + 29) σ.1 := by
      refine ⟨fun p hp => ?_, fun p hp => ?_⟩
      · obtain ⟨a, ha, hk6⟩ := hL1.2.1 p hp
        have hlt := lt a (by rw [hk6]; decide)
        exact ⟨a, (l30.2.2.2 _ _).trans ha, hlt, (sm2 a hlt).1.trans hk6⟩
      · obtain ⟨a, ha, p0, p1, p2, p3, w, p4, p5, p6, p7⟩ := hL1.2.2 p hp
        have hlt := lt a (by rw [p1]; decide)
        have hlw := lt w (by rw [p6.2.1]; decide)
        have sa := sm2 a hlt
        have sw := sm2 w hlw
        exact ⟨a, (l30.2.2.2 _ _).trans ha, hlt, sa.1.trans p1, (sa.2.2.1 _ _).trans p2, w, hlw, ⟨(sa.2.2.2 _ _).trans p6.1, sw.1.trans p6.2.1, sw.2.1.trans p6.2.2⟩, fun i hi => (sw.2.2.1 _ _).trans (p7 i hi)⟩
    refine ⟨lx.1.trans g0, lx.1.trans g0, _, (lx.2.2.2 _ _).trans g3, l29.1.trans c1, lx.1.trans g0, _, (lx.2.2.2 _ _).trans g3, l29.1.trans c1, by omega, by omega, ?_⟩
    refine c_packedInit (la := x + 29) (n := σ.1 0) (by rw [nk, if_pos rfl]) ns (fun a ha => by rw [nk, if_neg (by omega)]; exact hz1 a (by omega)) (by omega) (l29.1.trans c1) ⟨(l29.2.2.2 _ _).trans c2, l30.1.trans c3, l30.2.1.trans c4⟩ hX h6 hV.2.2.2.1 (by omega) hn8.2 ((l29.2.2.1 _ _).trans hL1.1.1) ((l29.2.2.1 _ _).trans hL1.1.2.1) fun S3 hB3 hF3 hP3 hs3 hZ3 => ?_
    have sm3 : ∀ a, a < bz → Sm S1 S3 a := fun a ha => Sm_tr (sm2 a ha) (hB3.1 a ha)
    refine ⟨(sm3 x (by omega)).1.trans g0, ?_⟩
    rintro _ rfl
    refine ⟨(sm3 x (by omega)).1.trans g0, bz, by rw [gR_sR, if_pos ⟨rfl, rfl, rfl⟩], hB3.2.1.1, ?_⟩
    rw [gI_sR, hF3.1]
    have hF : Fr (fun a => a ≠ x ∧ a < bz) S1 (sR S3 183 x 0 (some bz)) := ⟨fun a ha => ⟨(sm3 a (lt a ha)).1, (sm3 a (lt a ha)).2.1⟩, fun a ha f i => ⟨(sm3 a ha.2).2.2.1 f i, by rw [gR_sR, if_neg (fun w => ha.1 w.2.1)]; exact (sm3 a ha.2).2.2.2 f i⟩⟩
    refine h1 _ (fun q' hR => ?_) (KO_tr hko fun a a1 a2 => ?_)
    · obtain ⟨r1, ⟨r2, r3, r4⟩, r5, r6, r7, r8⟩ := hR
      refine hfin _ bz q' (Fr_sub hF (fun a ha => ⟨ha.1, lt a (by rw [hk]; exact ha.2.2.2)⟩)) ⟨fun a ha => ?_, ?_⟩ (CK_tr hF.1 (fun f a i ha hcc => ?_) hC1) (by rw [gR_sR, if_pos ⟨rfl, rfl, rfl⟩]) (Or.inl hzz) ?_ ?_
      · rw [sz_sR, hs3] at ha
        exact hZ3 a (by omega)
      · rw [sz_sR, hs3]
        omega
      · rw [gR_sR, if_neg (by omega)]
        exact (sm3 a (by omega)).2.2.2 f i
      · -- the line
        have hL3 : LineAt (sR S3 183 x 0 (some bz)) wd1 (x + 111) (x + 29) σ.1 := LineAt_fr hF (fun a ha hk0 _ => ⟨by omega, lt a hk0⟩) (fun _ w => w) ⟨by omega, by omega⟩ ⟨by omega, by omega⟩ hL1
        exact LineAt_cg hV r1 hL3
      · -- the box
        refine ⟨Or.inl hzz, ⟨hB3.2.1.1, ?_, ?_, ?_⟩, ⟨?_, hB3.2.2.1.2⟩, ⟨?_, hB3.2.2.2.1.2⟩, ?_, fun p hp => ?_, fun t ht => ?_⟩
        · rw [gI_sR, r2]
          exact hB3.2.1.2.1
        · rw [gI_sR, r3]
          exact hB3.2.1.2.2
        · rw [gI_sR, r4]
          exact hF3.1
        · rw [gR_sR, if_neg (by omega)]
          exact hB3.2.2.1.1
        · rw [gR_sR, if_neg (by omega)]
          exact hB3.2.2.2.1.1
        · rw [r3]
          refine ⟨?_, hF3.2.1.2⟩
          rw [gR_sR, if_neg (by omega)]
          exact hF3.2.1.1
        · rw [r2] at hp
          obtain ⟨b1, b2, b3⟩ := r5 p hp
          obtain ⟨a, ha, p0, p1, p2, p3, w, p4, p5, p6, p7⟩ := hL1.2.2 p hp
          have hlt := lt a (by rw [p1]; decide)
          have hlw := lt w (by rw [p6.2.1]; decide)
          have sa := sm3 a hlt
          have sw := sm3 w hlw
          rw [b1, b2, b3]
          refine ⟨⟨a, ?_, p0, sa.1.trans p1, (sa.2.2.1 _ _).trans p2, w, p4, ?_, sw.1.trans p6.2.1, sw.2.1.trans p6.2.2⟩, ?_⟩
          · rw [gR_sR, if_neg (by omega), hB3.2.2.2.2 p (by omega)]
            exact (l30.2.2.2 _ _).trans ha
          · rw [gR_sR, if_neg (by omega)]
            exact (sa.2.2.2 _ _).trans p6.1
          · rw [gI_sR]
            exact hF3.2.2 p hp
        · rw [r3] at ht
          obtain ⟨⟨k1, k2, k3, k4⟩, ⟨k5, k6⟩, k7⟩ := hP3 t ht
          rw [(r6 t (by omega)).1, (r6 t (by omega)).2]
          refine ⟨⟨?_, k2, ⟨?_, k3.2⟩, ⟨?_, k4.2⟩, fun w => ?_⟩, k5, k6, fun i hi => ?_⟩
          · rw [gR_sR, if_neg (by omega)]
            exact k1
          · rw [gR_sR, if_neg (by omega)]
            exact k3.1
          · rw [gR_sR, if_neg (by omega)]
            exact k4.1
          · have := hwk1 _ w
            rw [← hk, hz1 _ (by omega)] at this
            omega
          · rw [r4] at hi
            obtain ⟨p, hp, s, hs', rfl⟩ := fr_surj 9 i hi
            obtain ⟨u1, u2⟩ := r7 p hp s hs' t ht
            obtain ⟨u3, u4⟩ := k7 p hp s hs'
            rw [u1, u2]
            exact ⟨u3, u4⟩
    · have := sm3 a (by omega)
      exact ⟨this.1, this.2.1, this.2.2.1, fun f i => by rw [gR_sR, if_neg (by omega)]; exact this.2.2.2 f i⟩
  · rw [w.2] at hbb
    exact absurd hbb (by decide)
end CPACK2
