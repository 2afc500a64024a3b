section CUNDO
variable {S : Hp} {x : Nat} {σ : Sg}
theorem C_again {Q : Int32 → Hp → Prop} {t : Int32} (hS : CS S x σ) (hV : V σ.1) (h : ∀ S', CS S' x (oAgain σ t).2 → KO x S S' → Q (oAgain σ t).1 S') : wp_X11_again x t S Q := by
  obtain ⟨hC, hz, ht, h01, bo, nx, wd, ⟨hb, hbo⟩, -, -, hL, hB, -⟩ := id hS
  obtain ⟨⟨f0, f1, f2, f3, f4, f5, f6⟩, -, -, ⟨i1, i2⟩, -, -, m1, m2, m3⟩ := id hC
  have h8 := hV.2.2.2.2.1
  unfold oAgain at h
  obtain ⟨g0, ⟨g1, g2, g3, g4⟩, g5, g6, ⟨g7, g7', g7''⟩, g8, g9⟩ := id hB
  refine ⟨f0, _, hb, g1, c_hasPacket g1 g3 h8.2.1 (fun j hj hp => ⟨fun _ => ?_, fun w => absurd w (by decide)⟩) (fun hn => ⟨fun w => absurd rfl w, fun _ => ?_⟩)⟩
  · subst hp
    rw [if_pos ((okN_nI (by omega)).mpr hj), tn_nI (by omega)] at h
    have hv := hV.2.2.2.2.2.2.1 j (by omega)
    obtain ⟨⟨b1, b2, b3, b4, b5⟩, b6, b7, b8⟩ := g9 j hj
    refine ⟨f0, f0, f0, f0, _, hb, g1, _, g7, g7', by rw [g7'']; exact vp_li hj (by omega), _, f3, _, f4, m1, ?_⟩
    rw [nI_clamp (by omega), b1]
    refine c_keepP hS hV hb hj fun S1 hK => ?_
    obtain ⟨hC1, ⟨hs, hk, hln⟩, hko, hlo, hb1, wd1, hB1, hfin⟩ := hK
    obtain ⟨-, ⟨e1, e2, e3, e4⟩, -, -, ⟨e7, e7', e7''⟩, -, e9⟩ := id hB1
    obtain ⟨⟨d1, d2, d3, d4, d5⟩, d6, d7, d8⟩ := e9 j hj
    refine ⟨hC1.1.1, _, hb1, e1, _, e7, e7', by rw [e7'']; exact vp_li hj (by omega), hC1.1.1, _, hb1, e1, _, d1, d2, ?_⟩
    rw [e4]
    -- the loop
    generalize hq : σ.1 = q at *
    have hlp := Lp_for (B := fun K y => wb_X4_sendAgain_4 (fun w0 w1 w2 => K (w0, w1, w2)) Q (bo + 4 + 3 * j) (nI (q 95)) y.1 y.2.1 y.2.2) (fun i => (nI (agN q j i), nI i, setA S1 (bo + 6 + 3 * j) (fun k => if k < i then gI S1 0 (bo + 5 + 3 * j) k else gI S1 0 (bo + 6 + 3 * j) k))) (q 95) (fun i hi K hK => ?_) (fun K => ?_) (i := 0) (by omega)
    · have e0 : (fun k => if k < 0 then gI S1 0 (bo + 5 + 3 * j) k else gI S1 0 (bo + 6 + 3 * j) k) = gI S1 0 (bo + 6 + 3 * j) := by
        funext k
        rw [if_neg (by omega)]
      rw [e0, setA_self] at hlp
      exact hlp
    · have s5 : ∀ k, gI (setA S1 (bo + 6 + 3 * j) (fun k => if k < i then gI S1 0 (bo + 5 + 3 * j) k else gI S1 0 (bo + 6 + 3 * j) k)) 0 (bo + 5 + 3 * j) k = gI S1 0 (bo + 5 + 3 * j) k := fun k => by rw [gI_setA, if_neg (by omega)]
      have s6 : gI (setA S1 (bo + 6 + 3 * j) (fun k => if k < i then gI S1 0 (bo + 5 + 3 * j) k else gI S1 0 (bo + 6 + 3 * j) k)) 0 (bo + 6 + 3 * j) i = gI S1 0 (bo + 6 + 3 * j) i := by rw [setA_at, if_neg (by omega)]
      have step : ∀ d : Nat, agN q j (i + 1) = d → wp_X4_sendAgain_41 (fun w0 w1 w2 => K (w0, w1, w2)) Q (bo + 4 + 3 * j) (nI (q 95)) (nI d) (nI i) (setA S1 (bo + 6 + 3 * j) (fun k => if k < i then gI S1 0 (bo + 5 + 3 * j) k else gI S1 0 (bo + 6 + 3 * j) k)) := by
        intro d hd
        refine ⟨d2, d2, _, d3.1, d3.2.1, by rw [ln_setA, d3.2.2]; exact vp_li (by omega) (by omega), _, d4.1, d4.2.1, by rw [ln_setA, d4.2.2]; exact vp_li (by omega) (by omega), ?_⟩
        rintro _ rfl _ rfl
        rw [nI_clamp (by omega), nI_1, s5, setA_sI]
        have ef : va_up (fun k => if k < i then gI S1 0 (bo + 5 + 3 * j) k else gI S1 0 (bo + 6 + 3 * j) k) i (gI S1 0 (bo + 5 + 3 * j) i) = (fun k => if k < i + 1 then gI S1 0 (bo + 5 + 3 * j) k else gI S1 0 (bo + 6 + 3 * j) k) := by
          funext k
          unfold va_up
          by_cases hk : k = i
          · subst hk
            rw [if_pos rfl, if_pos (by omega)]
          · rw [if_neg hk]
            by_cases hk2 : k < i
            · dsimp only
              rw [if_pos hk2, if_pos (by omega)]
            · dsimp only
              rw [if_neg hk2, if_neg (by omega)]
        rw [ef, ← hd]
        exact hK
      have step1 : agN q j (i + 1) = agN q j i + 1 → wp_X4_sendAgain_38 (fun w0 w1 w2 => K (w0, w1, w2)) Q (bo + 4 + 3 * j) (nI (q 95)) (nI (agN q j i)) (nI i) (setA S1 (bo + 6 + 3 * j) (fun k => if k < i then gI S1 0 (bo + 5 + 3 * j) k else gI S1 0 (bo + 6 + 3 * j) k)) := by
        intro hd
        rintro _ rfl
        rw [nI_1]
        exact step _ hd
      refine ⟨fun hc => ?_, fun _ => ⟨fun hc => ?_, fun _ => ⟨d2, ?_⟩⟩⟩
      · dsimp only at hc
        rw [nI_leI (by omega) (by omega)] at hc
        omega
      · dsimp only at hc
        rw [li_40, nI_leI (by omega) (by omega)] at hc
        omega
      · refine c_holds (S := setA S1 _ _) (l := q (122 + j)) (e := q (114 + j)) d2 d6 d7 (by omega) (by omega) (fun k hk hx hz0 => ⟨fun w => absurd w (by decide), fun _ => ?_⟩) (fun hn => ⟨fun _ => step1 ?_, fun w => absurd rfl w⟩)
        · obtain rfl : i = k := nI_inj (by omega) (by omega) hx
          refine ⟨d2, _, d4.1, d4.2.1, by rw [ln_setA, d4.2.2]; exact vp_li (by omega) (by omega), d2, _, d3.1, d3.2.1, by rw [ln_setA, d3.2.2]; exact vp_li (by omega) (by omega), ?_⟩
          dsimp only
          have hb1 := hV.2.2.2.2.2.2.2 j (by omega) i (by omega)
          rw [nI_clamp (by omega), s5, s6, (d8 i (by omega)).1, (d8 i (by omega)).2, nI_eq (by omega) (by omega)]
          refine ⟨fun hc => step _ ?_, fun hc => step1 ?_⟩
          · rw [agN, if_neg (fun w => w.elim (fun a => a ⟨hz0, hk⟩) (fun a => a hc))]
            rfl
          · rw [agN, if_pos (Or.inr hc)]
        · rw [agN, if_pos (Or.inl fun w => hn ⟨w.1, (vp_nI (by omega)).mpr w.2⟩)]
    · refine ⟨fun _ => ?_, fun hc => absurd (nI_le (Nat.le_refl _) (by omega)) hc⟩
      refine j_min (a := q 95) (b := 40) (by omega) (by omega) ⟨d2, ?_⟩
      rintro _ rfl
      refine ⟨d2, Or.inl rfl, ?_⟩
      rintro _ rfl
      dsimp only
      rw [show min (q 95) 40 = q 95 by omega]
      refine h _ (hfin _ (agR q j) rfl rfl rfl rfl (fun f a i a1 a2 => ?_) ?_ ?_ (fun i hi => ?_) (fun k k1 k2 k3 => ?_)) (KO_tr hko (KO_tr (KO_setA (by omega)) (KO_tr (KO_sI (by omega)) (KO_sI (by omega)))))
      · rw [gI_sI, if_neg (by omega), gI_sI, if_neg (by omega), gI_setA]
        by_cases hf : f = 0 ∧ a = bo + 6 + 3 * j
        · rw [if_pos hf, if_neg (by omega), hf.1, hf.2]
        · rw [if_neg hf]
      · rw [gI_sI, if_neg (by omega), gI_sI, if_pos ⟨rfl, rfl, rfl⟩]
        unfold agR
        rw [if_neg (by omega), if_neg (by omega), if_pos rfl]
      · rw [gI_sI, if_pos ⟨rfl, rfl, rfl⟩]
        unfold agR
        rw [if_neg (by omega), if_pos rfl]
        rfl
      · rw [gI_sI, if_neg (by omega), gI_sI, if_neg (by omega), setA_at, if_pos hi, (d8 i hi).1]
        unfold agR
        rw [if_pos (by omega), show 450 + 40 * j + i - 320 = 130 + 40 * j + i by omega]
      · unfold agR
        rw [if_neg (by omega), if_neg (by omega), if_neg (by omega)]
  · rw [if_neg (fun w => hn (okN_vp.mpr w))] at h
    exact h S hS (KO_rf x S)
theorem j_max {a b : Nat} {S : Hp} {Q : Int32 → Prop} (ha : a < 2 ^ 31) (hb : b < 2 ^ 31) (h : Q (nI (max a b))) : wp_J9_max_7cf53 (nI a) (nI b) S Q := by
  refine ⟨fun hc => ?_, fun hc => ?_⟩
  · rw [nI_ltI ha hb] at hc
    rw [show max a b = b by omega] at h
    exact h
  · rw [nI_ltI ha hb] at hc
    rw [show max a b = a by omega] at h
    exact h
theorem C_undo {Q : Int32 → Hp → Prop} (hS : CS S x σ) (hVu : ∀ v ∈ σ.2.1, V v) (h : ∀ S', CS S' x (oUndo σ).2 → KO x S S' → Q (oUndo σ).1 S') : wp_X11_undo x S Q := by
  obtain ⟨hC, hz, ht, h01, bo, nx, wd, ⟨hb, hbo⟩, ⟨hnx, h146, h147, hu⟩, hwk, hL, hB, hU⟩ := id hS
  obtain ⟨⟨f0, f1, f2, f3, f4, f5, f6⟩, -, -, ⟨i1, i2⟩, -, -, m1, m2, m3⟩ := id hC
  obtain ⟨q, us, tx⟩ := σ
  cases us with
  | nil => exact ⟨f0, _, f4, m1, fun hc => absurd h147 hc, fun _ => h S hS (KO_rf x S)⟩
  | cons u us =>
    dsimp only at ht h147 hu hL hB hU
    rw [List.length_cons] at h147 hu
    refine ⟨f0, _, f4, m1, fun _ => ⟨f0, _, f4, m1, m1, by decide, m1, ?_⟩, fun hc => ?_⟩
    · rintro _ rfl
      refine ⟨m1, ?_⟩
      have e147 : ∀ v, gI (sI S 146 (x + 53) 0 v) 147 (x + 53) 0 = nI (us.length + 1) := fun v => by rw [gI_sI, if_neg (by omega)]; exact h147
      rw [h146, li_8, li_1, nI_add, pk_sub (by omega), pk_rem (by omega) (by omega) (by omega), e147, pk_sub (by omega), Nat.add_sub_cancel, li_0, show nx + 8 - 1 = nx + 7 by omega]
      refine j_max (by omega) (by omega) ⟨m1, ?_⟩
      rintro _ rfl
      rw [show max 0 us.length = us.length by omega]
      obtain ⟨⟨bu, u1, u2, u3, u4, u5⟩, u6, u7⟩ := hU
      have hn8 : (nx + 7) % 8 < 8 := Nat.mod_lt _ (by decide)
      generalize hny : (nx + 7) % 8 = ny at *
      obtain ⟨t1, t2, t3, t4, t5, t6⟩ := m3 ny hn8
      have e146 : gI (sI (sI S 146 (x + 53) 0 (nI ny)) 147 (x + 53) 0 (nI us.length)) 146 (x + 53) 0 = nI ny := by rw [gI_sI, if_neg (by omega), gI_sI, if_pos ⟨rfl, rfl, rfl⟩]
      refine ⟨m1, m1, _, m2.1, m2.2.1, ?_, x + 55 + 6 * ny, ?_, f0, _, f3, t2, t2, _, t3, i1, ?_⟩
      · rw [e146, ln_sI, ln_sI, m2.2.2]
        exact vp_li hn8 (by omega)
      · rw [e146, nI_clamp (by omega)]
        exact t1
      · refine c_copyOf (S := sI (sI S 146 (x + 53) 0 (nI ny)) 147 (x + 53) 0 (nI us.length)) i1 t4 i2 (by rw [show x + 56 + 6 * ny + 1 = x + 57 + 6 * ny by omega]; exact t5) (by have := u3.2.1; rw [show x + 56 + 6 * ny + 1 = x + 57 + 6 * ny by omega] at this ⊢; exact this) (by omega) ⟨t2, ?_⟩
        generalize hS3 : cpL (sI (sI S 146 (x + 53) 0 (nI ny)) 147 (x + 53) 0 (nI us.length)) (x + 29) (x + 56 + 6 * ny) = S3
        have k3 : kd S3 = kd S := by rw [← hS3]; rfl
        have l3 : ln S3 = ln S := by rw [← hS3]; rfl
        have z3 : sz S3 = sz S := by rw [← hS3]; rfl
        have F3 : Fr (fun a => a ≠ x + 53 ∧ a ≠ x + 29 ∧ a ≠ x + 30) S S3 := by
          refine ⟨fun a _ => ⟨by rw [k3], by rw [l3]⟩, fun a ha f i => ?_⟩
          rw [← hS3]
          exact ⟨by rw [cpL_gI ha.2.1, gI_sI, if_neg (by omega), gI_sI, if_neg (by omega)], by rw [cpL_gR (by omega)]; rfl⟩
        have L3 : LineAt S3 wd (x + 111) (x + 29) u := by
          rw [← hS3]
          refine cpL_line (by omega) ?_ (LineAt_fr (R := fun a => a ≠ x + 53) (Fr_tr (Fr_sI (fun w => w rfl)) (Fr_sI (fun w => w rfl))) (fun a ha _ _ => by omega) (fun _ w => w) (by omega) (by omega) u3)
          exact (hVu u (List.mem_cons_self)).2.2.1
        have g131 : gR S3 131 (x + 55 + 6 * ny) 0 = gR S 131 (x + 55 + 6 * ny) 0 := (F3.2 _ ⟨by omega, by omega, by omega⟩ _ _).2
        have g146 : gI S3 146 (x + 53) 0 = nI ny := by rw [← hS3, cpL_gI (by omega)]; exact e146
        have g147 : gI S3 147 (x + 53) 0 = nI us.length := by rw [← hS3, cpL_gI (by omega), gI_sI, if_pos ⟨rfl, rfl, rfl⟩]
        have C3 : CK S3 x := by
          refine CK_tr F3.1 (fun f a i ha hc => ?_) hC
          rw [← hS3, cpL_gR (by omega)]
          rfl
        -- what the end gives, at the heap with the packet put back
        have fin : ∀ S7 : Hp, S7 = rst S3 (x + 55 + 6 * ny) → kd S7 (x + 55 + 6 * ny) = 9 ∧ kd S7 x = 12 ∧ ∀ S8 : Hp, S8 = sR S7 183 x 0 ((gR S7 130 (x + 55 + 6 * ny) 0)) → kd S8 x = 12 ∧ ∃ b9, (gR S8 180 x 0) = some b9 ∧ kd S8 b9 = 10 ∧ Q (gI S8 147 b9 0) S8 := by
          intro S7 h7
          have k7 : kd S7 = kd S := by
            rw [h7, ← k3]
            unfold rst
            split <;> rfl
          have l7 : ln S7 = ln S := by
            rw [h7, ← l3]
            unfold rst
            split <;> rfl
          have z7 : sz S7 = sz S := by
            rw [h7, ← z3]
            unfold rst
            split <;> rfl
          have r7 : ∀ f a i, gR S7 f a i = gR S3 f a i := fun f a i => by
            rw [h7]
            unfold rst
            split <;> rfl
          have i7 : ∀ a, a ≤ x + 110 → ∀ f i, gI S7 f a i = gI S3 f a i := fun a ha f i => by
            rw [h7]
            unfold rst
            rw [g131]
            rcases u5 with u5 | ⟨t, _, hbu, u5⟩
            · rw [u5]
            · rw [u5]
              dsimp only
              rw [gI_sI, if_neg (by omega), gI_sI, if_neg (by omega), gI_cpA, if_neg (by omega)]
          refine ⟨by rw [k7]; exact t2, by rw [k7]; exact f0, ?_⟩
          rintro _ rfl
          have e130 : gR S7 130 (x + 55 + 6 * ny) 0 = some bu := by rw [r7, (F3.2 _ ⟨by omega, by omega, by omega⟩ _ _).2]; exact u1
          rw [e130]
          refine ⟨by rw [kd_sR, k7]; exact f0, x + 53, ?_, by rw [kd_sR, k7]; exact m1, ?_⟩
          · rw [gR_sR, if_neg (by omega), r7]
            exact C3.1.2.2.2.2.1
          · rw [gI_sR, i7 _ (by omega), g147]
            -- the rows before, over the heap with the packet put back
            have FU : Fr (fun a => a ≠ x + 53 ∧ a ≠ x + 29 ∧ a ≠ x + 30 ∧ a ≠ x) (rst S (x + 55 + 6 * ny)) (sR S7 183 x 0 (some bu)) := by
              have h0 := rst_fr (st := x + 55 + 6 * ny) F3 ⟨by omega, by omega, by omega⟩ ⟨by omega, by omega, by omega⟩
              rw [← h7] at h0
              refine ⟨fun a ha => ?_, fun a ha f i => ⟨?_, ?_⟩⟩
              · exact h0.1 a ha
              · rw [gI_sR]
                exact (h0.2 a ⟨ha.1, ha.2.1, ha.2.2.1⟩ f i).1
              · rw [gR_sR, if_neg (by omega)]
                exact (h0.2 a ⟨ha.1, ha.2.1, ha.2.2.1⟩ f i).2
            have kr : kd (rst S (x + 55 + 6 * ny)) = kd S := by
              unfold rst
              split <;> rfl
            refine h _ ⟨?_, ⟨fun a ha => ?_, ?_⟩, ⟨?_, fun i hi => ?_⟩, fun j hj => ?_, bu, ny, wd, ⟨?_, u2⟩, ⟨hn8, ?_, ?_, ?_⟩, fun a ha => ?_, ?_, ?_, ?_⟩ ?_
            · refine CK_tr (S := S3) (fun a _ => ⟨by rw [kd_sR, k7, k3], by rw [ln_sR, l7, l3]⟩) (fun f a i ha hc => ?_) C3
              rw [gR_sR, if_neg (by omega), r7]
            · rw [kd_sR, k7]
              rw [sz_sR, z7] at ha
              exact hz.1 a ha
            · rw [sz_sR, z7]
              exact hz.2
            · rw [gI_sR, i7 _ (by omega), (F3.2 _ ⟨by omega, by omega, by omega⟩ _ _).1]
              exact ht.1
            · rw [gI_sR, i7 _ (by omega), (F3.2 _ ⟨by omega, by omega, by omega⟩ _ _).1]
              exact ht.2 i hi
            · rw [gI_sR, i7 _ (by omega), (F3.2 _ ⟨by omega, by omega, by omega⟩ _ _).1]
              exact h01 j hj
            · rw [gR_sR, if_pos ⟨rfl, rfl, rfl⟩]
            · rw [gI_sR, i7 _ (by omega)]
              exact g146
            · rw [gI_sR, i7 _ (by omega)]
              exact g147
            · show us.length ≤ 8
              omega
            · rw [kd_sR, k7]
              exact hwk a ha
            · -- the line
              have F7 : Fr (fun a => a ≠ x ∧ ∀ pa, gR S 131 (x + 55 + 6 * ny) 0 = some pa → a ≠ pa ∧ a ≠ pa + 2) S3 (sR S7 183 x 0 (some bu)) := by
                refine ⟨fun a _ => ⟨by rw [kd_sR, k7, k3], by rw [ln_sR, l7, l3]⟩, fun a ha f i => ⟨?_, ?_⟩⟩
                · rw [gI_sR, h7]
                  unfold rst
                  rw [g131]
                  cases hp : gR S 131 (x + 55 + 6 * ny) 0 with
                  | none => rfl
                  | some pa =>
                    have := ha.2 pa hp
                    dsimp only
                    rw [gI_sI, if_neg (by omega), gI_sI, if_neg (by omega), gI_cpA, if_neg (by omega)]
                · rw [gR_sR, if_neg (by omega), r7]
              have hpk : ∀ pa, gR S 131 (x + 55 + 6 * ny) 0 = some pa → x + 111 ≤ pa ∧ kd S pa = 5 ∧ kd S (pa + 2) = 20 ∧ ¬ wd (pa + 2) := by
                intro pa hp
                rcases u5 with u5 | ⟨t, ht5, hbu, u5⟩
                · rw [u5] at hp
                  cases hp
                · rw [u5] at hp
                  cases hp
                  obtain ⟨⟨-, w2, -, w4, w5⟩, -⟩ := u4.2.2.2.2.2.2 t ht5
                  rw [kr] at w2
                  have w4' := w4.2.1
                  rw [kr] at w4'
                  exact ⟨by omega, w2, by rw [show bu + 4 + 3 * t + 2 = bu + 6 + 3 * t by omega]; exact w4', by rw [show bu + 4 + 3 * t + 2 = bu + 6 + 3 * t by omega]; exact w5⟩
              refine LineAt_fr F7 (fun a ha hk0 hka => ⟨by omega, fun pa hp => ?_⟩) (fun _ w => w) ⟨by omega, fun pa hp => by have := hpk pa hp; omega⟩ ⟨by omega, fun pa hp => by have := hpk pa hp; omega⟩ L3
              obtain ⟨p1, p2, p3, p4⟩ := hpk pa hp
              rw [k3] at hka
              refine ⟨fun e => ?_, fun e => ?_⟩
              · rw [e, p2] at hka
                rcases hka with g | g
                · omega
                · have := hwk _ g
                  omega
              · rw [e, p3] at hka
                rcases hka with g | g
                · omega
                · exact p4 g
            · refine BoxAt_fr FU (fun a ha _ => ⟨by omega, by omega, by omega, by omega⟩) (fun _ _ w => w) (fun a g1 g2 _ => ?_) u4
              rcases u2 with u2 | u2
              · exact ⟨by omega, by omega, by omega, by omega⟩
              · exact ⟨by omega, by omega, by omega, by omega⟩
            · refine URel_fr us ny _ _ FU (fun a ha _ => ⟨by omega, by omega, by omega, by omega⟩) (fun a _ _ _ => ⟨by omega, by omega, by omega, by omega⟩) (fun j hj => ?_) (fun _ w => w) (fun _ _ w => w) u7
              exact ⟨⟨by omega, by omega, by omega, by omega⟩, ⟨by omega, by omega, by omega, by omega⟩, ⟨by omega, by omega, by omega, by omega⟩, ⟨by omega, by omega, by omega, by omega⟩⟩
            · intro a a1 a2
              refine ⟨by rw [kd_sR, k7], by rw [ln_sR, l7], fun f i => ?_, fun f i => ?_⟩
              · rw [gI_sR, i7 _ (by omega)]
                exact (F3.2 a ⟨by omega, by omega, by omega⟩ f i).1
              · rw [gR_sR, if_neg (by omega), r7]
                exact (F3.2 a ⟨by omega, by omega, by omega⟩ f i).2
        refine ⟨fun hp => ?_, fun pa hp => ?_⟩
        · refine fin _ ?_
          unfold rst
          rw [hp]
        · have hp' := g131.symm.trans hp
          rcases u5 with u5 | ⟨t, ht5, hbu, u5⟩
          · rw [u5] at hp'
            cases hp'
          rw [u5] at hp'
          cases hp'
          obtain ⟨⟨-, w2, -, w4, w5⟩, -⟩ := u4.2.2.2.2.2.2 t ht5
          have kr : kd (rst S (x + 55 + 6 * ny)) = kd S := by
            unfold rst
            split <;> rfl
          have lr : ln (rst S (x + 55 + 6 * ny)) = ln S := by
            unfold rst
            split <;> rfl
          have rr : gR (rst S (x + 55 + 6 * ny)) = gR S := by
            unfold rst
            split <;> rfl
          have w40 : gR S 66 (bu + 4 + 3 * t) 0 = some (bu + 4 + 3 * t + 2) := by
            have := w4.1
            rw [rr] at this
            rw [this]
            congr 1
            omega
          have w41 : kd S (bu + 4 + 3 * t + 2) = 20 := by
            have := w4.2.1
            rw [kr] at this
            rw [show bu + 4 + 3 * t + 2 = bu + 6 + 3 * t by omega]
            exact this
          have w42 : ln S (bu + 4 + 3 * t + 2) = 40 := by
            have := w4.2.2
            rw [lr] at this
            rw [show bu + 4 + 3 * t + 2 = bu + 6 + 3 * t by omega]
            exact this
          rw [kr] at w2
          refine ⟨by rw [k3]; exact t2, by rw [k3]; exact t2, _, hp, by rw [k3]; exact w2, x + 60 + 6 * ny, ?_, bu + 4 + 3 * t + 2, ?_, by rw [k3]; exact t6.2.1, by rw [k3]; exact w41, by omega, by have := t6.2.2; rw [l3]; omega, by rw [l3]; omega, ?_⟩
          · rw [(F3.2 _ ⟨by omega, by omega, by omega⟩ _ _).2]
            exact t6.1
          · rw [(F3.2 _ ⟨by omega, by omega, by omega⟩ _ _).2]
            exact w40
          · rintro _ rfl
            refine ⟨by show kd S3 _ = 9; rw [k3]; exact t2, by show kd S3 _ = 9; rw [k3]; exact t2, _, hp, by show kd S3 _ = 5; rw [k3]; exact w2, ?_⟩
            rintro _ rfl
            have e134 : gI (sI (cpA S3 (x + 60 + 6 * ny) (bu + 4 + 3 * t + 2) 40) 67 (bu + 4 + 3 * t) 0 (gI (cpA S3 (x + 60 + 6 * ny) (bu + 4 + 3 * t + 2) 40) 133 (x + 55 + 6 * ny) 0)) 134 (x + 55 + 6 * ny) 0 = gI S3 134 (x + 55 + 6 * ny) 0 := by rw [gI_sI, if_neg (by omega), gI_cpA, if_neg (by omega)]
            have e133 : gI (cpA S3 (x + 60 + 6 * ny) (bu + 4 + 3 * t + 2) 40) 133 (x + 55 + 6 * ny) 0 = gI S3 133 (x + 55 + 6 * ny) 0 := by rw [gI_cpA, if_neg (by omega)]
            refine ⟨by show kd S3 _ = 9; rw [k3]; exact t2, by show kd S3 _ = 9; rw [k3]; exact t2, _, hp, by show kd S3 _ = 5; rw [k3]; exact w2, ?_, ?_⟩
            · rw [e134, (F3.2 _ ⟨by omega, by omega, by omega⟩ _ _).1]
              exact u6
            · rintro _ rfl
              refine fin _ ?_
              rw [e134, e133]
              unfold rst
              rw [hp]
              dsimp only
              rw [show x + 55 + 6 * ny + 5 = x + 60 + 6 * ny by omega]
    · rw [h147, li_0, nI_eq (by omega) (by omega)] at hc
      omega
end CUNDO
