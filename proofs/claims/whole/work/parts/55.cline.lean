section CLINE
variable {S : Hp} {x : Nat} {σ : Sg}
theorem KO_np {S1 : Hp} {w p : Nat} {v1 v2 : Int32} (h : x + 111 ≤ sz S1) : KO x S1 (sR (sI (sI (sR (nw S1 6 0) 81 (sz S1) 0 (some w)) 82 (sz S1) 0 v1) 83 (sz S1) 0 v2) 0 (x + 30) p (some (sz S1))) := KO_tr (KO_nw (by omega)) (KO_tr (KO_sR (by omega)) (KO_tr (KO_sI (by omega)) (KO_tr (KO_sI (by omega)) (KO_sR (by omega)))))
theorem C_need {Q : Int32 → Hp → Prop} {p n : Int32} (hS : CS S x σ) (hV : V σ.1) (h : ∀ S', CS S' x (oNeed σ p n).2 → KO x S S' → Q (oNeed σ p n).1 S') : wp_X11_need x p n S Q := by
  obtain ⟨hC, hz, ht, h01, bo, nx, wd, ⟨hb, hbo⟩, -, -, hL, -⟩ := id hS
  obtain ⟨⟨f0, f1, f2, f3, f4, f5, f6⟩, -, -, ⟨i1, i2⟩, -, -, m1, m2, m3⟩ := id hC
  have h6 := hV.2.2.1
  unfold oNeed at h
  refine ⟨f0, _, f3, i1, c_has i1 hL.1.1 h6 (fun j hj hp => ⟨fun _ => ?_, fun w => absurd w (by decide)⟩) (fun hn => ⟨fun w => absurd rfl w, fun _ => ?_⟩)⟩
  · subst hp
    rw [if_pos ((okN_nI (by omega)).mpr hj), tn_nI (by omega)] at h
    refine c_withinB (a := 1) (b := 8) rfl rfl (by omega) (fun i i1 i8 hx => ⟨fun _ => ⟨f0, f0, f0, _, f3, _, hb, _, f4, m1, c_keepN hS hV hb fun S1 hK => ?_⟩, fun w => absurd w (by decide)⟩) (fun hn => ⟨fun w => absurd rfl w, fun _ => ?_⟩)
    · subst hx
      rw [if_pos ((okB_nI (by omega)).mpr ⟨i1, i8⟩), tn_nI (by omega)] at h
      obtain ⟨hC1, ⟨hs, hk, hln⟩, hko, bo1, nx1, wd1, hnx1, hb1, hbo1, hL1, hB1, hwk1, hfin⟩ := id hK
      obtain ⟨a, ha, p0, p1, p2, p3, w, p4, p5, p6, p7⟩ := hL1.2.2 j hj
      obtain ⟨⟨g0, -, -, g3, -⟩, -, -, ⟨c1, c2, c3, c4⟩, -⟩ := id hC1
      have hzz : x + 111 ≤ sz S1 := by rw [hs]; exact hz.2
      have hza : a ≠ sz S1 := fun e => by
        have : kd S1 (sz S1) = 0 := by rw [hk, hs]; exact hz.1 _ (Nat.le_refl _)
        rw [← e, p1] at this
        omega
      have hka : kd (nw S1 6 0) a = 6 := by rw [kd_nw, if_neg hza]; exact p1
      refine ⟨g0, _, g3, c1, _, c2, c3, by rw [c4]; exact vp_li (by omega) (by omega), a, by rw [nI_clamp (by omega)]; exact ha, g0, _, g3, c1, Nat.le_refl _, Nat.le_refl _, ?_⟩
      rintro _ rfl _ rfl
      refine ⟨hka, hka, w, by rw [gR_nw, if_neg hza]; exact p6.1, _, c2, by rw [kd_nw, if_pos rfl], ?_⟩
      rintro _ rfl
      refine ⟨by rw [kd_sR, kd_nw, if_pos rfl], ?_⟩
      rintro _ rfl
      refine ⟨by rw [kd_sI, kd_sR, kd_nw, if_pos rfl], ?_⟩
      rintro _ rfl
      refine ⟨?_, ?_, ?_, ?_⟩
      · rw [kd_sI, kd_sI, kd_sR, kd_nw, if_neg (by omega)]
        exact c3
      · rw [kd_sI, kd_sI, kd_sR, kd_nw, if_pos rfl]
      · rw [ln_sI, ln_sI, ln_sR, ln_nw, if_neg (by omega), c4]
        exact vp_li (by omega) (by omega)
      · rintro _ rfl
        have e83 : gI (nw S1 6 0) 83 a 0 = nI (σ.1 (5 + 15 * j)) := by rw [gI_nw, if_neg hza]; exact p3
        refine ⟨by rw [kd_sR, kd_sI, kd_sI, kd_sR]; exact hka, ?_⟩
        rw [e83, nI_clamp (by omega), gI_sR, gI_sI, if_neg (by omega), gI_sI, if_neg (by omega), gI_sR, gI_nw, if_neg hza, p2]
        refine h _ (new_part hK hz hV hj ha p6.1 (fun k hk1 hk2 => va_up_ne _ _ hk1) (va_up_self _ _ _) ?_) (KO_tr hko (KO_np hzz))
        exact va_up_ne _ _ (by omega)
    · rw [if_neg hn] at h
      exact h S hS (KO_rf x S)
  · rw [if_neg (fun w => hn (okN_vp.mpr w))] at h
    exact h S hS (KO_rf x S)
theorem C_weigh {Q : Int32 → Hp → Prop} {p n : Int32} (hS : CS S x σ) (hV : V σ.1) (h : ∀ S', CS S' x (oWeigh σ p n).2 → KO x S S' → Q (oWeigh σ p n).1 S') : wp_X11_weigh x p n S Q := by
  obtain ⟨hC, hz, ht, h01, bo, nx, wd, ⟨hb, hbo⟩, -, -, hL, -⟩ := id hS
  obtain ⟨⟨f0, f1, f2, f3, f4, f5, f6⟩, -, -, ⟨i1, i2⟩, -, -, m1, m2, m3⟩ := id hC
  have h6 := hV.2.2.1
  unfold oWeigh at h
  refine ⟨f0, _, f3, i1, c_has i1 hL.1.1 h6 (fun j hj hp => ⟨fun _ => ?_, fun w => absurd w (by decide)⟩) (fun hn => ⟨fun w => absurd rfl w, fun _ => ?_⟩)⟩
  · subst hp
    rw [if_pos ((okN_nI (by omega)).mpr hj), tn_nI (by omega)] at h
    refine c_withinB (a := 1) (b := 9) rfl rfl (by omega) (fun i i1 i8 hx => ⟨fun _ => ⟨f0, f0, f0, _, f3, _, hb, _, f4, m1, c_keepN hS hV hb fun S1 hK => ?_⟩, fun w => absurd w (by decide)⟩) (fun hn => ⟨fun w => absurd rfl w, fun _ => ?_⟩)
    · subst hx
      rw [if_pos ((okB_nI (by omega)).mpr ⟨i1, i8⟩), tn_nI (by omega)] at h
      obtain ⟨hC1, ⟨hs, hk, hln⟩, hko, bo1, nx1, wd1, hnx1, hb1, hbo1, hL1, hB1, hwk1, hfin⟩ := id hK
      obtain ⟨a, ha, p0, p1, p2, p3, w, p4, p5, p6, p7⟩ := hL1.2.2 j hj
      obtain ⟨⟨g0, -, -, g3, -⟩, -, -, ⟨c1, c2, c3, c4⟩, -⟩ := id hC1
      have hzz : x + 111 ≤ sz S1 := by rw [hs]; exact hz.2
      have hza : a ≠ sz S1 := fun e => by
        have : kd S1 (sz S1) = 0 := by rw [hk, hs]; exact hz.1 _ (Nat.le_refl _)
        rw [← e, p1] at this
        omega
      have hka : kd (nw S1 6 0) a = 6 := by rw [kd_nw, if_neg hza]; exact p1
      refine ⟨g0, _, g3, c1, _, c2, c3, by rw [c4]; exact vp_li (by omega) (by omega), a, by rw [nI_clamp (by omega)]; exact ha, g0, _, g3, c1, Nat.le_refl _, Nat.le_refl _, ?_⟩
      rintro _ rfl _ rfl
      refine ⟨hka, hka, w, by rw [gR_nw, if_neg hza]; exact p6.1, _, c2, by rw [kd_nw, if_pos rfl], ?_⟩
      rintro _ rfl
      refine ⟨by rw [kd_sR, kd_nw, if_pos rfl], ?_⟩
      rintro _ rfl
      refine ⟨by rw [kd_sI, kd_sR, kd_nw, if_pos rfl], ?_⟩
      rintro _ rfl
      refine ⟨?_, ?_, ?_, ?_⟩
      · rw [kd_sI, kd_sI, kd_sR, kd_nw, if_neg (by omega)]
        exact c3
      · rw [kd_sI, kd_sI, kd_sR, kd_nw, if_pos rfl]
      · rw [ln_sI, ln_sI, ln_sR, ln_nw, if_neg (by omega), c4]
        exact vp_li (by omega) (by omega)
      · rintro _ rfl
        have e82 : gI (nw S1 6 0) 82 a 0 = nI (σ.1 (4 + 15 * j)) := by rw [gI_nw, if_neg hza]; exact p2
        refine ⟨by rw [kd_sR, kd_sI, kd_sI, kd_sR]; exact hka, ?_⟩
        rw [e82, nI_clamp (by omega), gI_sR, gI_sI, if_neg (by omega), gI_sI, if_neg (by omega), gI_sR, gI_nw, if_neg hza, p3]
        refine h _ (new_part hK hz hV hj ha p6.1 (fun k hk1 hk2 => va_up_ne _ _ hk2) ?_ (va_up_self _ _ _)) (KO_tr hko (KO_np hzz))
        exact va_up_ne _ _ (by omega)
    · rw [if_neg hn] at h
      exact h S hS (KO_rf x S)
  · rw [if_neg (fun w => hn (okN_vp.mpr w))] at h
    exact h S hS (KO_rf x S)
/-- the references of an array, as a function -/
def setR (S : Hp) (a : Nat) (g : Nat → Option Nat) : Hp := (S.1, S.2.1, S.2.2.1, fun f' a' i' => if f' = 0 ∧ a' = a then g i' else S.2.2.2.1 f' a' i', S.2.2.2.2)
theorem gR_setR (S : Hp) (a : Nat) (g : Nat → Option Nat) (f' a' i' : Nat) : gR (setR S a g) f' a' i' = if f' = 0 ∧ a' = a then g i' else gR S f' a' i' := rfl
theorem setR_at (S : Hp) (a : Nat) (g : Nat → Option Nat) (i : Nat) : gR (setR S a g) 0 a i = g i := by simp [gR_setR]
theorem setR_self (S : Hp) (a : Nat) : setR S a (gR S 0 a) = S := by
  obtain ⟨s1, s2, s3, s4, s5⟩ := S
  unfold setR gR
  congr 4
  funext f' a' i'
  by_cases h : f' = 0 ∧ a' = a
  · rw [if_pos h, h.1, h.2]
  · rw [if_neg h]
theorem setR_sR (S : Hp) (a : Nat) (g : Nat → Option Nat) (i : Nat) (v : Option Nat) : sR (setR S a g) 0 a i v = setR S a (fun j => if j = i then v else g j) := by
  unfold sR setR up3
  congr 4
  funext f' a' i'
  by_cases h : f' = 0 ∧ a' = a
  · obtain ⟨rfl, rfl⟩ := h
    by_cases hi : i' = i <;> simp [hi]
  · have h2 : ¬ (f' = 0 ∧ a' = a ∧ i' = i) := fun q => h ⟨q.1, q.2.1⟩
    simp only [if_neg h2, if_neg h]
def shR (g : Nat → Option Nat) (p i : Nat) : Nat → Option Nat := fun j => if p ≤ j ∧ j < p + i then g (j + 1) else g j
theorem C_drop {Q : Int32 → Hp → Prop} {p : Int32} (hS : CS S x σ) (hV : V σ.1) (h : ∀ S', CS S' x (oDrop σ p).2 → KO x S S' → Q (oDrop σ p).1 S') : wp_X11_drop x p S Q := by
  obtain ⟨hC, hz, ht, h01, bo, nx, wd, ⟨hb, hbo⟩, -, -, hL, -⟩ := id hS
  obtain ⟨⟨f0, f1, f2, f3, f4, f5, f6⟩, -, -, ⟨i1, i2⟩, -, -, m1, m2, m3⟩ := id hC
  have h6 := hV.2.2.1
  unfold oDrop at h
  refine ⟨f0, _, f3, i1, c_has i1 hL.1.1 h6 (fun p hp hx => ⟨fun _ => ⟨f0, f0, f0, _, f3, _, hb, _, f4, m1, c_keepN hS hV hb fun S1 hK => ?_⟩, fun w => absurd w (by decide)⟩) (fun hn => ⟨fun w => absurd rfl w, fun _ => ?_⟩)⟩
  · subst hx
    rw [if_pos ((okN_nI (by omega)).mpr hp), tn_nI (by omega)] at h
    obtain ⟨hC1, ⟨hs, hk, hln⟩, hko, bo1, nx1, wd1, hnx1, hb1, hbo1, hL1, hB1, hwk1, hfin⟩ := id hK
    obtain ⟨⟨g0, -, -, g3, -⟩, -, -, ⟨c1, c2, c3, c4⟩, -⟩ := id hC1
    refine ⟨g0, _, g3, c1, ?_⟩
    have e0 : S1 = setR S1 (x + 30) (shR (gR S1 0 (x + 30)) p 0) := by
      have : shR (gR S1 0 (x + 30)) p 0 = gR S1 0 (x + 30) := by
        funext j
        unfold shR
        rw [if_neg (by omega)]
      rw [this, setR_self]
    have e34 : ∀ i, gI (setR S1 (x + 30) (shR (gR S1 0 (x + 30)) p i)) 34 (x + 29) 0 = nI (σ.1 2) := fun i => hL1.1.1
    have e33 : ∀ i, gR (setR S1 (x + 30) (shR (gR S1 0 (x + 30)) p i)) 33 (x + 29) 0 = some (x + 30) := fun i => by rw [gR_setR, if_neg (by omega)]; exact c2
    have key := Lp_for (B := fun K y => wb_X2_takeOut_2 (fun w0 w1 => K (w0, w1)) (fun S11 => kd S11 x = 12 ∧ ∃ b12, (gR S11 179 x 0) = some b12 ∧ kd S11 b12 = 3 ∧ Q (gI S11 34 b12 0) S11) (x + 29) y.1 y.2) (fun i => (nI (p + i), setR S1 (x + 30) (shR (gR S1 0 (x + 30)) p i))) (σ.1 2 - 1 - p) (fun i hi K hK2 => ?_) (fun K => ?_) (i := 0) (by omega)
    · rw [← e0] at key
      exact key
    · obtain ⟨b, hb6, hkb⟩ := hL1.2.1 (p + i + 1) (by omega)
      have es : gR (setR S1 (x + 30) (shR (gR S1 0 (x + 30)) p i)) 0 (x + 30) (p + i + 1) = some b := by
        rw [setR_at]
        unfold shR
        rw [if_neg (by omega)]
        exact hb6
      refine ⟨c1, fun hc => ?_, fun _ => ⟨c1, c1, _, e33 i, c3, ?_, b, ?_, c3, hkb, ?_, ?_⟩⟩
      · dsimp only at hc
        rw [e34 i, nI_1, nI_leI (by omega) (by omega)] at hc
        omega
      · dsimp only
        rw [nI_1]
        show vp_in _ (ln S1 (x + 30))
        rw [c4]
        exact vp_li (by omega) (by omega)
      · dsimp only
        rw [nI_1, nI_clamp (by omega)]
        exact es
      · show vp_in _ (ln S1 (x + 30))
        rw [c4]
        exact vp_li (by omega) (by omega)
      · rintro _ rfl _ rfl
        dsimp only
        rw [nI_clamp (by omega), nI_1, setR_sR]
        have e : (fun j => if j = p + i then some b else shR (gR S1 0 (x + 30)) p i j) = shR (gR S1 0 (x + 30)) p (i + 1) := by
          funext j
          unfold shR
          by_cases hj : j = p + i
          · subst hj
            rw [if_pos rfl, if_pos (by omega)]
            exact hb6.symm
          · rw [if_neg hj]
            by_cases h3 : p ≤ j ∧ j < p + i
            · rw [if_pos h3, if_pos (by omega)]
            · rw [if_neg h3, if_neg (by omega)]
        rw [e]
        exact hK2
    · refine ⟨c1, fun _ => ⟨c1, c1, ?_⟩, fun hc => ?_⟩
      · rintro _ rfl
        dsimp only
        rw [e34, li_1, pk_sub (by omega)]
        refine ⟨g0, x + 29, ?_, c1, ?_⟩
        · rw [gR_sI, gR_setR, if_neg (by omega)]
          exact g3
        · rw [gI_sI, if_pos ⟨rfl, rfl, rfl⟩]
          have hF : Fr (fun a => a ≠ x + 29 ∧ a ≠ x + 30) S1 (sI (setR S1 (x + 30) (shR (gR S1 0 (x + 30)) p (σ.1 2 - 1 - p))) 34 (x + 29) 0 (nI (σ.1 2 - 1))) := ⟨fun _ _ => ⟨rfl, rfl⟩, fun a ha f i => ⟨by rw [gI_sI, if_neg (by omega)]; rfl, by rw [gR_sI, gR_setR, if_neg (by omega)]⟩⟩
          refine h _ (KP_line hK (fun k hk => ?_) (Fr_sub hF (fun a ha => ⟨ha.1, ha.2.1⟩)) ?_ ?_ (fun wd hwk hL => ?_)) (KO_tr hko fun a h1 h2 => ⟨rfl, rfl, fun f i => (hF.2 a (by omega) f i).1, fun f i => (hF.2 a (by omega) f i).2⟩)
          · unfold dropR
            rw [if_neg (by omega), if_neg (by omega)]
          · show (∀ a, sz S1 ≤ a → kd S1 a = 0) ∧ x + 111 ≤ sz S1
            rw [hs, hk]
            exact hz
          · refine CK_tr hF.1 (fun f a i ha hc => ?_) hC1
            rw [gR_sI, gR_setR, if_neg (by omega)]
          · obtain ⟨⟨l1, l2, l3⟩, l4, l5⟩ := hL
            have er : ∀ j, gR (sI (setR S1 (x + 30) (shR (gR S1 0 (x + 30)) p (σ.1 2 - 1 - p))) 34 (x + 29) 0 (nI (σ.1 2 - 1))) 0 (x + 30) j = shR (gR S1 0 (x + 30)) p (σ.1 2 - 1 - p) j := fun j => by rw [gR_sI, setR_at]
            refine ⟨⟨?_, ?_, ?_⟩, fun j hj => ?_, fun j hj => ?_⟩
            · rw [gI_sI, if_pos ⟨rfl, rfl, rfl⟩]
              rfl
            · rw [gI_sI, if_neg (by omega), show dropR σ.1 p 0 = σ.1 0 by unfold dropR; rw [if_neg (by omega), if_neg (by omega)]]
              exact l2
            · rw [gI_sI, if_neg (by omega), show dropR σ.1 p 1 = σ.1 1 by unfold dropR; rw [if_neg (by omega), if_neg (by omega)]]
              exact l3
            · rw [er]
              unfold shR
              by_cases h3 : p ≤ j ∧ j < p + (σ.1 2 - 1 - p)
              · rw [if_pos h3]
                exact l4 (j + 1) (by omega)
              · rw [if_neg h3]
                exact l4 j hj
            · have hj' : j < σ.1 2 - 1 := hj
              rw [er]
              unfold shR
              by_cases h3 : p ≤ j ∧ j < p + (σ.1 2 - 1 - p)
              · rw [if_pos h3]
                have hlj := (hV.2.2.2.1 (j + 1) (by omega)).1.2
                obtain ⟨b, hb1, hb2⟩ := l5 (j + 1) (by omega)
                have d1 : dropR σ.1 p (3 + 15 * j) = σ.1 (3 + 15 * (j + 1)) := by unfold dropR; rw [if_neg (by omega), if_pos (by omega)]; congr 1
                have d2 : dropR σ.1 p (4 + 15 * j) = σ.1 (4 + 15 * (j + 1)) := by unfold dropR; rw [if_neg (by omega), if_pos (by omega)]; congr 1
                have d3 : dropR σ.1 p (5 + 15 * j) = σ.1 (5 + 15 * (j + 1)) := by unfold dropR; rw [if_neg (by omega), if_pos (by omega)]; congr 1
                rw [d1, d2, d3]
                refine ⟨b, hb1, PartAt_cg (fun i hi => ?_) (PartAt_fr hF (fun c hc _ _ => by omega) (fun _ w => w) hb2)⟩
                unfold dropR
                rw [if_neg (by omega), if_pos (by omega), show 6 + 15 * j + i + 15 = 6 + 15 * (j + 1) + i by omega]
              · rw [if_neg h3]
                have hlj := (hV.2.2.2.1 j (by omega)).1.2
                obtain ⟨b, hb1, hb2⟩ := l5 j (by omega)
                have d1 : dropR σ.1 p (3 + 15 * j) = σ.1 (3 + 15 * j) := by unfold dropR; rw [if_neg (by omega), if_neg (by omega)]
                have d2 : dropR σ.1 p (4 + 15 * j) = σ.1 (4 + 15 * j) := by unfold dropR; rw [if_neg (by omega), if_neg (by omega)]
                have d3 : dropR σ.1 p (5 + 15 * j) = σ.1 (5 + 15 * j) := by unfold dropR; rw [if_neg (by omega), if_neg (by omega)]
                rw [d1, d2, d3]
                refine ⟨b, hb1, PartAt_cg (fun i hi => ?_) (PartAt_fr hF (fun c hc _ _ => by omega) (fun _ w => w) hb2)⟩
                unfold dropR
                rw [if_neg (by omega), if_neg (by omega)]
      · dsimp only at hc
        rw [e34, nI_1] at hc
        exact absurd (nI_le (by omega) (by omega)) hc
  · rw [if_neg (fun w => hn (okN_vp.mpr w))] at h
    exact h S hS (KO_rf x S)
end CLINE
