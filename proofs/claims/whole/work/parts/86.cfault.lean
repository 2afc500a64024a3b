/-! ===== the class: fault ===== -/
def st (T : Nat → Nat) (L : Nat) : Nat → Nat
  | 0 => tF T L 0
  | j + 1 => nF T L (nF T L (cl T L (st T L j)))
def qq (T : Nat → Nat) (L : Nat) (q : Nat → Nat) : Nat → Nat → Nat
  | 0 => q
  | c + 1 => cq T L (st T L c) (qq T L q c)
section CFAULT
variable {S S' : Hp} {x : Nat} {σ : Sg} {T : Nat → Nat} {L : Nat}
theorem st_le : ∀ c, st T L c ≤ L
  | 0 => tF_le (Nat.zero_le _)
  | c + 1 => nF_le (nF_le (cl_le (st_le c)))
theorem ClAt_gx {P : Nat → Nat → Prop} {ca f : Nat} (h : Gx P S S') (hp : ∀ g, ¬ P g ca) (hc : ClAt S ca T L f) : ClAt S' ca T L f := by
  have e : ∀ g, gI S' g ca 0 = gI S g ca 0 := fun g => h.2.2.2 g ca 0 (hp g)
  unfold ClAt
  rw [e, e, e, e, e]
  exact hc
theorem CT_of (hS : CS S x σ) (hL : σ.2.2.2 ≤ 200) (hT : ∀ i, i < σ.2.2.2 → σ.2.2.1 i ≤ 255) : CT S x σ.2.2.1 σ.2.2.2 := by
  obtain ⟨hC, hz, ht, -⟩ := hS
  exact ⟨hC.2.1, ⟨hC.2.2.1.1, hC.2.2.1.2.1⟩, ht.1, hL, fun i hi => ⟨ht.2 i hi, hT i hi⟩⟩
def P3 (x : Nat) (_ : Nat) (a : Nat) : Prop := x + 3 ≤ a ∧ a ≤ x + 28
theorem c_firstFault {Q : Int32 → Hp → Prop} {q : Nat → Nat} (hC : CK S x) (h : CT S x T L) (h6 : q 2 ≤ 6)
    (h1 : pF T L 23 (tF T L 0) (q 2) = none → ∀ S' n, Sc x S S' → n ≤ 24 → pN T L 23 (tF T L 0) = n → pQ T L 23 (tF T L 0) q = qq T L q n → gI S' 115 (x + 3) 0 = nI n → (∀ c, c < n → ClAt S' (x + 5 + c) T L (st T L c) ∧ ck T L (st T L c) (qq T L q c 2) ≠ 4 ∧ qq T L q c 2 ≤ 6) → Q (-1) S')
    (h0 : ∀ p, p ≤ L → pF T L 23 (tF T L 0) (q 2) = some p → ∀ S', Sc x S S' → Q (nI p) S') : wp_X7_firstFault (x + 3) (nI (q 2)) S Q := by
  obtain ⟨-, -, ⟨k8, r13, ⟨r14, k21, l24⟩, hcl⟩, -⟩ := id hC
  have hL := h.2.2.2.1
  have gP : ∀ {S1 : Hp}, Gx (P3 x) S S1 → Sc x S S1 := fun g => Gx_Sc g (fun _ _ w => w)
  have cx : ∀ {S1 : Hp}, Gx (P3 x) S S1 → CT S1 x T L := fun g => CT_gx g (fun _ _ w => w) h
  refine ⟨k8, ?_⟩
  rintro _ rfl
  refine ⟨k8, ?_⟩
  rintro _ rfl
  refine ⟨k8, ?_⟩
  rintro _ rfl
  have hf0 : tF T L 0 = st T L 0 := rfl
  rw [hf0] at h1 h0
  generalize hpf : pF T L 23 (st T L 0) (q 2) = pf at *
  generalize hpn : pN T L 23 (st T L 0) = pn at *
  generalize hpq : pQ T L 23 (st T L 0) q = pq at *
  have hG0 : Gx (P3 x) S (sI (sI (sI S 118 (x + 3) 0 0) 115 (x + 3) 0 0) 119 (x + 3) 0 (nI (q 2))) := Gx_tr (Gx_sI ⟨by omega, by omega⟩) (Gx_tr (Gx_sI ⟨by omega, by omega⟩) (Gx_sI ⟨by omega, by omega⟩))
  refine Lp_of (fun n y => ∃ c S1, c ≤ 24 ∧ n = 24 - c ∧ y = (nI c, S1) ∧ Gx (P3 x) S S1 ∧ gI S1 115 (x + 3) 0 = nI c ∧ gI S1 119 (x + 3) 0 = nI (qq T L q c 2) ∧ qq T L q c 2 ≤ 6 ∧ (∀ j, j < c → ClAt S1 (x + 5 + j) T L (st T L j) ∧ ck T L (st T L j) (qq T L q j 2) ≠ 4 ∧ qq T L q j 2 ≤ 6) ∧ (c < 24 → ∃ b, b ≤ L ∧ tF T L b = st T L c ∧ gI S1 118 (x + 3) 0 = nI b ∧ pF T L (23 - c) (st T L c) (qq T L q c 2) = pf ∧ pN T L (23 - c) (st T L c) + c = pn ∧ pQ T L (23 - c) (st T L c) (qq T L q c) = pq) ∧ (c = 24 → ∃ p, p ≤ L ∧ gI S1 117 (x + 3) 0 = nI p ∧ pf = some p)) (fun n y hy K hK => ?_) (n := 24) (x := (nI 0, sI (sI (sI S 118 (x + 3) 0 0) 115 (x + 3) 0 0) 119 (x + 3) 0 (nI (q 2)))) ⟨0, _, by omega, rfl, rfl, hG0, ?_, ?_, h6, fun j hj => absurd hj (Nat.not_lt_zero j), fun _ => ⟨0, Nat.zero_le _, rfl, ?_, hpf, hpn, hpq⟩, fun w => by omega⟩
  · obtain ⟨c, S1, hc, rfl, rfl, hG, e5, e9, hq6, hall, hlt, hend⟩ := hy
    have hC1 := cx hG
    have k1 := hC1.2.1.1
    refine ⟨fun h24 => ⟨k1, ?_⟩, fun h24 => ?_⟩
    · dsimp only at h24 ⊢
      rw [li_24, nI_leI (by omega) (by omega)] at h24
      obtain ⟨p, hpL, hp, hpp⟩ := hend (by omega)
      rw [hp]
      exact h0 p hpL hpp S1 (gP hG)
    · dsimp only at h24 ⊢
      rw [li_24, nI_leI (by omega) (by omega)] at h24
      obtain ⟨b, hb, hbs, e8, hpF, hpN, hpQ⟩ := hlt (by omega)
      obtain ⟨u1, u2⟩ := hcl c (by omega)
      have kc : kd S1 (x + 5 + c) = 1 := ((hG.1 _).1).trans u2
      refine ⟨k1, _, (hG.2.2.1 _ _ _).trans r14, ((hG.1 _).1).trans k21, ?_, x + 5 + c, ?_, k1, ?_⟩
      · rw [(hG.1 _).2, l24]
        exact vp_li (by omega) (by omega)
      · rw [nI_clamp (by omega), hG.2.2.1]
        exact u1
      · have hsl := st_le (T := T) (L := L) c
        have hcl' := cl_le (T := T) hsl
        refine c_takeClause hC1 kc (by omega) (by omega) e8 e9 hq6 hb (fun hck S2 hG2 d8 d9 hcA => ⟨fun _ => ?_, fun z => absurd z (by decide)⟩) (fun hck S2 hG2 d7 => ⟨fun z => absurd rfl z, fun _ => ?_⟩)
        · rw [hbs] at hck d8 d9 hcA
          have hG2' : Gx (P3 x) S S2 := Gx_tr hG (Gx_sub hG2 (fun f a w => by
            rcases w with w | w
            · have := w.1
              exact ⟨by omega, by omega⟩
            · exact ⟨by omega, by omega⟩))
          have hC2 := cx hG2'
          have k2 := hC2.2.1.1
          have d5 : gI S2 115 (x + 3) 0 = nI c := by
            rw [hG2.2.2.2 _ _ _ (fun w => by rcases w with w | w; (have := w.2; omega); omega)]
            exact e5
          refine ⟨k2, k2, ?_⟩
          rintro _ rfl
          rw [d5, nI_1]
          have hG3 : Gx (P3 x) S (sI S2 115 (x + 3) 0 (nI (c + 1))) := Gx_tr hG2' (Gx_sI ⟨by omega, by omega⟩)
          have f8 : gI (sI S2 115 (x + 3) 0 (nI (c + 1))) 118 (x + 3) 0 = nI (tE T L (cl T L (st T L c))) := by rw [gI_sI, if_neg (by omega)]; exact d8
          have f9 : gI (sI S2 115 (x + 3) 0 (nI (c + 1))) 119 (x + 3) 0 = nI (cm T L (st T L c) (qq T L q c 2)) := by rw [gI_sI, if_neg (by omega)]; exact d9
          have f5 : gI (sI S2 115 (x + 3) 0 (nI (c + 1))) 115 (x + 3) 0 = nI (c + 1) := by rw [gI_sI, if_pos ⟨rfl, rfl, rfl⟩]
          have hall3 : ∀ j, j < c + 1 → ClAt (sI S2 115 (x + 3) 0 (nI (c + 1))) (x + 5 + j) T L (st T L j) ∧ ck T L (st T L j) (qq T L q j 2) ≠ 4 ∧ qq T L q j 2 ≤ 6 := fun j hj => by
            have g3 : Gx (fun f a => a = x + 3) S2 (sI S2 115 (x + 3) 0 (nI (c + 1))) := Gx_sI rfl
            by_cases e : j = c
            · subst e
              exact ⟨ClAt_gx g3 (fun g => by omega) hcA, hck, hq6⟩
            · obtain ⟨v1, v2⟩ := hall j (by omega)
              exact ⟨ClAt_gx g3 (fun g => by omega) (ClAt_gx hG2 (fun g w => by rcases w with w | w; (have := w.1; omega); omega) v1), v2⟩
          generalize sI S2 115 (x + 3) 0 (nI (c + 1)) = S3 at *
          have hC3 := cx hG3
          refine ⟨hC3.2.1.1, c_takeToken hC3 f8 (tE_le hcl') fun S4 hG4 a7 a8 a6 => ?_⟩
          have eg : tF T L (tE T L (cl T L (st T L c))) = nF T L (cl T L (st T L c)) := rfl
          rw [eg] at a7 a8 a6
          have hgl := nF_le (T := T) hcl'
          rw [pF_eq, if_neg hck] at hpF
          rw [pN_eq] at hpN
          rw [pQ_eq] at hpQ
          have hst : st T L (c + 1) = nF T L (nF T L (cl T L (st T L c))) := rfl
          have hqq : qq T L q (c + 1) = cq T L (st T L c) (qq T L q c) := rfl
          have hq2 : qq T L q (c + 1) 2 = cm T L (st T L c) (qq T L q c 2) := cq_2
          have hle := cm_le hq6 hck
          rw [← hq2] at hpF hle f9
          rw [← hqq] at hpQ
          generalize hg : nF T L (cl T L (st T L c)) = g at *
          have hG4' : Gx (P3 x) S S4 := Gx_tr hG3 (Gx_sub hG4 (fun f a w => Pt_in w))
          have hC4 := cx hG4'
          have k4 := hC4.2.1.1
          have keep4 : ∀ f, ¬ (f = 116 ∨ f = 117 ∨ f = 118) → gI S4 f (x + 3) 0 = gI S3 f (x + 3) 0 := fun f hf => hG4.2.2.2 _ _ _ (fun w => hf w.2)
          have hall4 : ∀ j, j < c + 1 → ClAt S4 (x + 5 + j) T L (st T L j) ∧ ck T L (st T L j) (qq T L q j 2) ≠ 4 ∧ qq T L q j 2 ≤ 6 := fun j hj => ⟨ClAt_gx hG4 (fun g w => by have := w.1; omega) (hall3 j hj).1, (hall3 j hj).2⟩
          refine ⟨k4, fun hk => ⟨k4, k4, _, hC4.2.1.2, hC4.1.1, ?_⟩, fun hk => ?_⟩
          · rw [a6] at hk
            have hgL : g < L := by
              by_cases w : g < L
              · exact w
              · exact absurd (tkK_0.mpr w) hk
            unfold pG at hpF
            unfold pNG at hpN
            unfold pQG at hpQ
            rw [if_pos hgL] at hpF hpN hpQ
            rw [a7]
            refine c_isSign (c := 59) hC4 (by omega) rfl (by omega) (fun _ hs => ⟨fun _ => ?_, fun z => absurd z (by decide)⟩) (fun hn => ⟨fun z => absurd rfl z, fun _ => ⟨k4, ?_⟩⟩)
            · rintro _ rfl
              refine hK _ (24 - (c + 1)) (by omega) ⟨c + 1, S4, by omega, rfl, rfl, hG4', (keep4 _ (by omega)).trans f5, (keep4 _ (by omega)).trans f9, hle, hall4, fun hc24 => ⟨tE T L g, tE_le hgl, hst.symm, a8, ?_, ?_, ?_⟩, fun hc24 => ⟨g, hgl, a7, ?_⟩⟩
              · rw [if_neg (by omega), if_pos hs] at hpF
                rw [hst, show 23 - (c + 1) = 23 - c - 1 by omega]
                exact hpF
              · rw [if_neg (by omega)] at hpN
                rw [hst, show 23 - (c + 1) = 23 - c - 1 by omega]
                omega
              · rw [if_neg (by omega)] at hpQ
                rw [hst, show 23 - (c + 1) = 23 - c - 1 by omega]
                exact hpQ
              · rw [if_pos (by omega)] at hpF
                exact hpF.symm
            · have hns : ¬ T g = 59 := fun w => hn ⟨hgL, w⟩
              refine h0 g hgl ?_ S4 (gP hG4')
              by_cases hk0 : 23 - c = 0
              · rw [if_pos hk0] at hpF
                exact hpF.symm
              · rw [if_neg hk0, if_neg hns] at hpF
                exact hpF.symm
          · rw [a6] at hk
            have hgL : ¬ g < L := tkK_0.mp hk
            unfold pG at hpF
            unfold pNG at hpN
            unfold pQG at hpQ
            rw [if_neg hgL] at hpF hpN hpQ
            exact h1 hpF.symm S4 (c + 1) (gP hG4') (by omega) (by omega) hpQ.symm ((keep4 _ (by omega)).trans f5) hall4
        · rw [hbs] at hck d7
          rw [pF_eq, if_pos hck] at hpF
          have hG2' : Gx (P3 x) S S2 := Gx_tr hG (Gx_sub hG2 (fun f a w => by
            rcases w with w | w
            · have := w.1
              exact ⟨by omega, by omega⟩
            · exact ⟨by omega, by omega⟩))
          refine ⟨(cx hG2').2.1.1, ?_⟩
          rw [d7]
          exact h0 _ (cf_le (st_le c)) hpF.symm S2 (gP hG2')
  · rw [gI_sI, if_neg (by omega), gI_sI, if_pos ⟨rfl, rfl, rfl⟩]
    rfl
  · rw [gI_sI, if_pos ⟨rfl, rfl, rfl⟩]
    rfl
  · rw [gI_sI, if_neg (by omega), gI_sI, if_neg (by omega), gI_sI, if_pos ⟨rfl, rfl, rfl⟩]
    rfl
theorem C_fault {Q : Int32 → Hp → Prop} (hS : CS S x σ) (hV : V σ.1) (hL : σ.2.2.2 ≤ 200) (hT : ∀ i, i < σ.2.2.2 → σ.2.2.1 i ≤ 255) (h : ∀ S', CS S' x σ → KO x S S' → Q (oFault σ) S') : wp_X11_fault x S Q := by
  obtain ⟨hC, hz, ht, h01, bo, nx, wd, ⟨hb, hbo⟩, -, -, hLn, hB, -⟩ := id hS
  obtain ⟨⟨f0, f1, f2, f3, f4, f5, f6⟩, -, ⟨k8, -⟩, ⟨i1, i2⟩, -⟩ := id hC
  unfold oFault ftl at h
  refine ⟨f0, f0, _, f3, i1, _, f2, k8, ?_⟩
  rw [hLn.1.1]
  refine c_firstFault hC (CT_of hS hL hT) hV.2.2.1 (fun hp S' n hsc _ _ _ _ _ => ?_) (fun p _ hp S' hsc => ?_)
  · rw [hp] at h
    exact h S' (CS_sc hsc hS) (Sc_KO hsc)
  · rw [hp] at h
    exact h S' (CS_sc hsc hS) (Sc_KO hsc)
end CFAULT
