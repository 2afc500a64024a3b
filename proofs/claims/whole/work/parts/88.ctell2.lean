section CTELL2
variable {S S' : Hp} {x : Nat} {σ : Sg} {T : Nat → Nat} {L : Nat} {q : Nat → Nat}
theorem CLn_end (h : CLn S x q T L) : CS (sI (sI S 147 (x + 53) 0 0) 162 (x + 1) 0 0) x (q, [], T, 0) := by
  obtain ⟨hC, hz, ht, h01, bo, nx, wd, ⟨hb, hbo⟩, ⟨hnx, h146⟩, hwk, hL, hB⟩ := h
  have hF : Fr (fun a => a ≠ x + 53 ∧ a ≠ x + 1) S (sI (sI S 147 (x + 53) 0 0) 162 (x + 1) 0 0) := Fr_tr (Fr_sI (fun w => w.1 rfl)) (Fr_sI (fun w => w.2 rfl))
  refine ⟨CK_tr (S := S) (fun _ _ => ⟨rfl, rfl⟩) (fun _ _ _ _ _ => rfl) hC, hz, ⟨?_, fun i hi => absurd hi (Nat.not_lt_zero i)⟩, fun j hj => ?_, bo, nx, wd, ⟨hb, hbo⟩, ⟨hnx, ?_, ?_, Nat.zero_le _⟩, hwk, LineAt_fr hF (fun a _ _ _ => by omega) (fun _ w => w) (by omega) (by omega) hL, BoxAt_fr hF (fun a _ _ => by omega) (fun _ _ w => w) (fun a _ _ _ => by omega) hB, trivial⟩
  · rw [gI_sI, if_pos ⟨rfl, rfl, rfl⟩]
    rfl
  · rw [gI_sI, if_neg (by omega), gI_sI, if_neg (by omega)]
    exact h01 j hj
  · rw [gI_sI, if_neg (by omega), gI_sI, if_neg (by omega)]
    exact h146
  · rw [gI_sI, if_neg (by omega), gI_sI, if_pos ⟨rfl, rfl, rfl⟩]
    rfl
theorem C_tell {Q : Int32 → Hp → Prop} (hS : CS S x σ) (hV : V σ.1) (hL : σ.2.2.2 ≤ 200) (hT : ∀ i, i < σ.2.2.2 → σ.2.2.1 i ≤ 255) (h : ∀ S', CS S' x (oTell σ).2 → KO x S S' → V (oTell σ).2.1 → Q (oTell σ).1 S') : wp_X11_tell x S Q := by
  obtain ⟨hC, hz, ht, h01, bo, nx, wd, ⟨hb, hbo⟩, -, -, hLn, hB, -⟩ := id hS
  obtain ⟨⟨f0, f1, f2, f3, f4, f5, f6⟩, -, ⟨k8, -⟩, ⟨i1, i2⟩, -⟩ := id hC
  unfold oTell ftl at h
  refine ⟨f0, f0, _, f3, i1, _, f2, k8, ?_⟩
  rw [hLn.1.1]
  refine c_firstFault hC (CT_of hS hL hT) hV.2.2.1 (fun hp S1 n hsc hn hpn hpq h115 hall => ⟨fun _ => ?_, fun z => absurd rfl z⟩) (fun p hpL hp S1 hsc => ⟨fun z => ?_, fun _ => ?_⟩)
  · rw [hp] at h
    dsimp only at h
    rw [hpn, hpq] at h
    have hC1 : CLn S1 x σ.1 σ.2.2.1 σ.2.2.2 := CLn_of (CS_sc hsc hS)
    generalize σ.2.2.1 = T at *
    generalize σ.2.2.2 = L at *
    refine Lp_of (fun m y => ∃ c S', c ≤ n ∧ m = n - c ∧ y = (nI c, S', 48 - 2 * c, 360 - 15 * c) ∧ CLn S' x (qq T L σ.1 c) T L ∧ V (qq T L σ.1 c) ∧ KO x S S' ∧ (∀ a, x + 3 ≤ a → a ≤ x + 28 → kd S' a = kd S1 a ∧ ln S' a = ln S1 a ∧ ∀ g i, gI S' g a i = gI S1 g a i ∧ gR S' g a i = gR S1 g a i)) (fun m y hy K hK => ?_) (n := n) (x := (nI 0, S1, 48, 360)) ⟨0, S1, by omega, rfl, rfl, hC1, hV, Sc_KO hsc, fun a _ _ => ⟨rfl, rfl, fun _ _ => ⟨rfl, rfl⟩⟩⟩
    obtain ⟨c, S2, hc, rfl, rfl, hl, hVc, hko, hsame⟩ := hy
    dsimp only
    obtain ⟨⟨e0, e1, e2, e3, e4, e5, e6⟩, ⟨t1, -⟩, ⟨d1, d2, d3, d4⟩, -, -, -, m1, -⟩ := id hl.1
    have h115' : gI S2 115 (x + 3) 0 = nI n := (((hsame _ (by omega) (by omega)).2.2 115 0).1).trans h115
    refine ⟨e0, _, e2, d1, fun hd => ?_, fun hd => ?_⟩
    · rw [h115', nI_leI (by omega) (by omega)] at hd
      obtain rfl : c = n := by omega
      refine ⟨e0, _, e4, m1, m1, ?_⟩
      rintro _ rfl
      refine ⟨e0, _, e1, t1, ?_⟩
      rintro _ rfl
      refine ⟨e0, _, e2, d1, ?_⟩
      rw [gI_sI, if_neg (by omega), gI_sI, if_neg (by omega), h115']
      exact h _ (CLn_end hl) (KO_tr hko (KO_tr (KO_sI (by omega)) (KO_sI (by omega)))) hVc
    · rw [h115', nI_leI (by omega) (by omega)] at hd
      refine ⟨fun he => ?_, fun he => ⟨e0, _, e2, d1, _, d3.1, d3.2.1, ?_, x + 5 + c, ?_, e0, by omega, by omega, ?_⟩⟩
      · rw [li_24, nI_leI (by omega) (by omega)] at he
        omega
      · rw [d3.2.2]
        exact vp_li (by omega) (by omega)
      · rw [nI_clamp (by omega)]
        exact (d4 c (by omega)).1
      · obtain ⟨a1, a2, a3⟩ := hall c (by omega)
        have hcA : ClAt S2 (x + 5 + c) T L (st T L c) := by
          have e : ∀ g, gI S2 g (x + 5 + c) 0 = gI S1 g (x + 5 + c) 0 := fun g => ((hsame _ (by omega) (by omega)).2.2 g 0).1
          unfold ClAt
          rw [e, e, e, e, e]
          exact a1
        refine C_carry hl hL hT a2 (st_le c) hVc (d4 c (by omega)).2 ⟨by omega, by omega⟩ hcA fun S3 hl3 hko3 hs3 => ?_
        rintro _ rfl
        rw [nI_1]
        refine hK _ (n - (c + 1)) (by omega) ⟨c + 1, S3, by omega, rfl, ?_, hl3, V_cq hVc (st_le c) a2, KO_tr hko hko3, fun a b1 b2 => ?_⟩
        · rw [show 48 - 2 * c - 2 = 48 - 2 * (c + 1) by omega, show 360 - 15 * c - 15 = 360 - 15 * (c + 1) by omega]
        · obtain ⟨u1, u2, u3⟩ := hs3 a b1 b2
          obtain ⟨v1, v2, v3⟩ := hsame a b1 b2
          exact ⟨u1.trans v1, u2.trans v2, fun g i => ⟨((u3 g i).1).trans (v3 g i).1, ((u3 g i).2).trans (v3 g i).2⟩⟩
  · have := congrArg Int32.toInt z
    rw [nI_toInt (by omega), show (-1 : Int32).toInt = -1 from rfl] at this
    omega
  · rw [hp] at h
    exact h S1 (CS_sc hsc hS) (Sc_KO hsc) hV
end CTELL2
