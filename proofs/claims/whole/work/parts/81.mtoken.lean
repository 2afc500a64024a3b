/-! ===== the reference's reader ===== -/
section MTOK
variable {S : Hp} {mo : Nat} {σ : Sg} {T : Nat → Nat} {L : Nat}
theorem sI_sI (S : Hp) (f a i : Nat) (v w : Int32) : sI (sI S f a i v) f a i w = sI S f a i w := by
  unfold sI up3
  congr 3
  funext f' a' i'
  by_cases h : f' = f ∧ a' = a ∧ i' = i
  · simp only [if_pos h]
  · simp only [if_neg h]
theorem MS_fld {f : Nat} {v : Int32} (h : MS S mo σ) (h0 : f ≠ 0) (h1 : f ≠ 194) (h2 : f ≠ 196) : MS (sI S f mo 0 v) mo σ := by
  obtain ⟨hM, hR, ⟨hu, hu8, hus⟩, ⟨ht1, ht2, ht3⟩, hw⟩ := h
  refine ⟨hM, fun i hi => ?_, ⟨?_, hu8, fun j u hj k hk => ?_⟩, ⟨?_, ht2, fun i hi => ⟨?_, (ht3 i hi).2⟩⟩, fun i hi => ?_⟩
  · rw [gI_sI, if_neg (by omega)]
    exact hR i hi
  · rw [gI_sI, if_neg (by omega)]
    exact hu
  · rw [gI_sI, if_neg (by omega)]
    exact hus j u hj k hk
  · rw [gI_sI, if_neg (by omega)]
    exact ht1
  · rw [gI_sI, if_neg (by omega)]
    exact (ht3 i hi).1
  · rw [gI_sI, if_neg (by omega)]
    exact hw i hi
theorem MS_n3 {k : Nat} {v : Int32} (h : MS S mo σ) : MS (sI S 0 (mo + 3) k v) mo σ := by
  obtain ⟨hM, hR, ⟨hu, hu8, hus⟩, ⟨ht1, ht2, ht3⟩, hw⟩ := h
  refine ⟨hM, fun i hi => ?_, ⟨?_, hu8, fun j u hj k hk => ?_⟩, ⟨?_, ht2, fun i hi => ⟨?_, (ht3 i hi).2⟩⟩, fun i hi => ?_⟩
  · rw [gI_sI, if_neg (by omega)]
    exact hR i hi
  · rw [gI_sI, if_neg (by omega)]
    exact hu
  · rw [gI_sI, if_neg (by omega)]
    exact hus j u hj k hk
  · rw [gI_sI, if_neg (by omega)]
    exact ht1
  · rw [gI_sI, if_neg (by omega)]
    exact (ht3 i hi).1
  · rw [gI_sI, if_neg (by omega)]
    exact hw i hi
theorem m_isSmall {c : Nat} {Q : Int32 → Prop} (hc : c ≤ 255) (h1 : isSm c = true → Q 1) (h0 : ¬ isSm c = true → Q 0) : wp_X12_isSmall (nI c) S Q := by
  refine m_inB (a := 97) (b := 122) rfl rfl (by omega) (fun j j1 j2 hx => ⟨Or.inr rfl, h1 ?_⟩) (fun hn => ⟨Or.inl rfl, h0 fun w => hn ?_⟩)
  · obtain rfl : c = j := nI_inj (by omega) (by omega) hx
    exact isSm_iff.mpr ⟨j1, j2⟩
  · have := isSm_iff.mp w
    rw [nI_toInt (by omega)]
    omega
theorem m_isDigit {c : Nat} {Q : Int32 → Prop} (hc : c ≤ 255) (h1 : isDg c = true → Q 1) (h0 : ¬ isDg c = true → Q 0) : wp_X12_isDigit (nI c) S Q := by
  refine m_inB (a := 48) (b := 57) rfl rfl (by omega) (fun j j1 j2 hx => ⟨Or.inr rfl, h1 ?_⟩) (fun hn => ⟨Or.inl rfl, h0 fun w => hn ?_⟩)
  · obtain rfl : c = j := nI_inj (by omega) (by omega) hx
    exact isDg_iff.mpr ⟨j1, j2⟩
  · have := isDg_iff.mp w
    rw [nI_toInt (by omega)]
    omega
def TX (S : Hp) (mo : Nat) (T : Nat → Nat) (L : Nat) : Prop := kd S mo = 13 ∧ (gR S 195 mo 0 = some (mo + 2) ∧ kd S (mo + 2) = 20 ∧ ln S (mo + 2) = 200) ∧ (gI S 196 mo 0 = nI L ∧ L ≤ 200 ∧ ∀ i, i < L → gI S 0 (mo + 2) i = nI (T i) ∧ T i ≤ 255)
theorem TX_of (h : MS S mo σ) : TX S mo σ.2.2.1 σ.2.2.2 := ⟨h.1.1, h.1.2.2.1, h.2.2.2.1⟩
def N2 (S : Hp) (mo f e : Nat) : Hp := sI (sI S 197 mo 0 (nI f)) 198 mo 0 (nI e)
theorem N2_196 {f e : Nat} : gI (N2 S mo f e) 196 mo 0 = gI S 196 mo 0 := by
  unfold N2
  rw [gI_sI, if_neg (by omega), gI_sI, if_neg (by omega)]
theorem N2_197 {f e : Nat} : gI (N2 S mo f e) 197 mo 0 = nI f := by
  unfold N2
  rw [gI_sI, if_neg (by omega), gI_sI, if_pos ⟨rfl, rfl, rfl⟩]
theorem N2_198 {f e : Nat} : gI (N2 S mo f e) 198 mo 0 = nI e := by
  unfold N2
  rw [gI_sI, if_pos ⟨rfl, rfl, rfl⟩]
theorem N2_0 {f e a i : Nat} : gI (N2 S mo f e) 0 a i = gI S 0 a i := by
  unfold N2
  rw [gI_sI, if_neg (by omega), gI_sI, if_neg (by omega)]
theorem N2_up {f e v : Nat} : sI (N2 S mo f e) 198 mo 0 (nI v) = N2 S mo f v := sI_sI _ _ _ _ _ _
/-- the loop behind a token's first letter -/
theorem m_next138 {Q : Hp → Prop} {f b : Nat} {v1 v2 : Int32} {P : Nat → Bool} (h : TX S mo T L) (hP : (v1 = 1 ∧ v2 = 0 ∧ P = isSm) ∨ (v1 = 0 ∧ v2 = 1 ∧ P = isDg) ∨ (v1 = 0 ∧ v2 = 0 ∧ P = fun _ => false)) (hb : b ≤ L) (hQ : Q (N2 S mo f (rn P T L b))) : wp_X12_next_138 Q mo v1 v2 (N2 S mo f b) := by
  obtain ⟨k0, ⟨r2, k2, l2⟩, ht1, ht2, ht3⟩ := h
  refine Lp_of (fun n y => ∃ b', b' ≤ L ∧ n = L - b' ∧ rn P T L b' = rn P T L b ∧ y = N2 S mo f b') (fun n y hy K hK => ?_) (n := L - b) ⟨b, hb, rfl, rfl, rfl⟩
  obtain ⟨i, i1, rfl, i2, rfl⟩ := hy
  have ex : (rn P T L i = i) → wp_X12_next_200 Q (N2 S mo f i) := fun hr => by
    rw [← i2, hr] at hQ
    exact hQ
  have go : i < L → P (T i) = true → wp_X12_next_187 (fun w0 => K w0) Q mo v1 v2 (N2 S mo f i) := fun hi hp => by
    refine ⟨k0, k0, ?_⟩
    rintro _ rfl
    rw [N2_198, nI_1, N2_up]
    exact hK _ (L - (i + 1)) (by omega) ⟨i + 1, by omega, rfl, by rw [← i2, rn_go hi hp], rfl⟩
  refine ⟨k0, k0, fun hc => ex ?_, fun hc => ⟨fun hv => ?_, fun hv => ?_⟩⟩
  · try dsimp only at hc
    rw [N2_196, N2_198, ht1, nI_leI (by omega) (by omega)] at hc
    exact rn_end hc
  · try dsimp only at hc
    rw [N2_196, N2_198, ht1, nI_leI (by omega) (by omega)] at hc
    refine ⟨fun hw => ex ?_, fun hw => ⟨k0, k0, _, r2, k2, ?_, ?_⟩⟩
    · rcases hP with ⟨g1, g2, g3⟩ | ⟨g1, g2, g3⟩ | ⟨g1, g2, g3⟩
      · rw [g1] at hv
        exact absurd hv (by decide)
      · rw [g2] at hw
        exact absurd hw (by decide)
      · rw [g3]
        exact rn_no (fun w => absurd w (by decide))
    · try dsimp only
      rw [N2_198]
      show vp_in _ (ln S (mo + 2))
      rw [l2]
      exact vp_li (by omega) (by omega)
    · try dsimp only
      rw [N2_198, nI_clamp (by omega), N2_0, (ht3 i (by omega)).1]
      have hPd : P = isDg := by
        rcases hP with ⟨g1, g2, g3⟩ | ⟨g1, g2, g3⟩ | ⟨g1, g2, g3⟩
        · exact absurd g2 hw
        · exact g3
        · exact absurd g2 hw
      subst hPd
      exact m_isDigit (ht3 i (by omega)).2 (fun w => ⟨fun z => absurd z (by decide), fun _ => go (by omega) w⟩) (fun w => ⟨fun _ => ex (rn_no w), fun z => absurd rfl z⟩)
  · try dsimp only at hc
    rw [N2_196, N2_198, ht1, nI_leI (by omega) (by omega)] at hc
    have hPd : v2 = 0 ∧ P = isSm := by
      rcases hP with ⟨g1, g2, g3⟩ | ⟨g1, g2, g3⟩ | ⟨g1, g2, g3⟩
      · exact ⟨g2, g3⟩
      · exact absurd g1 hv
      · exact absurd g1 hv
    obtain ⟨rfl, rfl⟩ := hPd
    refine ⟨k0, k0, _, r2, k2, ?_, ?_⟩
    · try dsimp only
      rw [N2_198]
      show vp_in _ (ln S (mo + 2))
      rw [l2]
      exact vp_li (by omega) (by omega)
    · try dsimp only
      rw [N2_198, nI_clamp (by omega), N2_0, (ht3 i (by omega)).1]
      exact m_isSmall (ht3 i (by omega)).2 (fun w => ⟨fun _ => go (by omega) w, fun z => absurd z (by decide)⟩) (fun w => ⟨fun z => absurd rfl z, fun _ => ⟨fun _ => ex (rn_no w), fun z => absurd rfl z⟩⟩)
theorem m_next {Q : Hp → Prop} {b : Nat} (h : TX S mo T L) (h2 : gI S 198 mo 0 = nI b) (hb : b ≤ L) (hQ : Q (N2 S mo (tF T L b) (tE T L (tF T L b)))) : wp_X12_next mo S Q := by
  obtain ⟨k0, ⟨r2, k2, l2⟩, ht1, ht2, ht3⟩ := id h
  refine ⟨k0, k0, ?_⟩
  rintro _ rfl
  rw [h2]
  have hfl := tF_le (T := T) hb
  have fin : ∀ f, f = tF T L b → wp_X12_next_46 Q mo (sI S 197 mo 0 (nI f)) := by
    intro f hf
    rw [← hf] at hQ hfl
    have e6 : gI (sI S 197 mo 0 (nI f)) 196 mo 0 = nI L := by rw [gI_sI, if_neg (by omega)]; exact ht1
    have e7 : gI (sI S 197 mo 0 (nI f)) 197 mo 0 = nI f := by rw [gI_sI, if_pos ⟨rfl, rfl, rfl⟩]
    have lp : ∀ {v1 v2 : Int32} {P : Nat → Bool} {i : Nat}, ((v1 = 1 ∧ v2 = 0 ∧ P = isSm) ∨ (v1 = 0 ∧ v2 = 1 ∧ P = isDg) ∨ (v1 = 0 ∧ v2 = 0 ∧ P = fun _ => false)) → i ≤ L → rn P T L i = tE T L f → wp_X12_next_138 Q mo v1 v2 (N2 S mo f i) := fun hP hi he => m_next138 h hP hi (by rw [he]; exact hQ)
    have none : ∀ {i : Nat}, rn (fun _ => false) T L i = i := rn_no (fun w => absurd w (by decide))
    refine ⟨k0, k0, fun hc => ⟨k0, k0, ?_⟩, fun hc => ⟨k0, k0, ?_⟩⟩
    · rw [e6, e7, nI_leI (by omega) (by omega)] at hc
      rintro _ rfl
      rw [e7]
      have en := tE_end (T := T) hc
      have hle : gI (N2 S mo f f) 196 mo 0 ≤ gI (N2 S mo f f) 197 mo 0 := by
        rw [N2_196, N2_197, ht1]
        exact nI_le hc (by omega)
      refine ⟨k0, k0, fun _ => ⟨k0, k0, fun _ => lp (i := f) (Or.inr (Or.inr ⟨rfl, rfl, rfl⟩)) hfl (none.trans en.symm), fun w => absurd hle w⟩, fun w => absurd hle w⟩
    · rw [e6, e7, nI_leI (by omega) (by omega)] at hc
      rintro _ rfl
      rw [e7, nI_1]
      have hfL : f < L := by omega
      have hle : ¬ gI (N2 S mo f (f + 1)) 196 mo 0 ≤ gI (N2 S mo f (f + 1)) 197 mo 0 := by
        rw [N2_196, N2_197, ht1, nI_leI (by omega) (by omega)]
        exact hc
      have hvp : vp_in (gI (N2 S mo f (f + 1)) 197 mo 0) (ln (N2 S mo f (f + 1)) (mo + 2)) := by
        rw [N2_197]
        show vp_in _ (ln S (mo + 2))
        rw [l2]
        exact vp_li (by omega) (by omega)
      have hch : gI (N2 S mo f (f + 1)) 0 (mo + 2) (gI (N2 S mo f (f + 1)) 197 mo 0).toNatClampNeg = nI (T f) := by
        rw [N2_197, nI_clamp (by omega), N2_0]
        exact (ht3 f hfL).1
      have h255 := (ht3 f hfL).2
      refine ⟨k0, k0, fun w => absurd w hle, fun _ => ⟨k0, k0, _, r2, k2, hvp, ?_⟩⟩
      show wp_X12_isSmall (gI (N2 S mo f (f + 1)) 0 (mo + 2) (gI (N2 S mo f (f + 1)) 197 mo 0).toNatClampNeg) _ _
      rw [hch]
      refine m_isSmall h255 (fun ws => ⟨fun z => absurd z (by decide), fun _ => ⟨k0, k0, fun w => absurd w hle, fun _ => ⟨k0, k0, _, r2, k2, hvp, ?_⟩⟩⟩) (fun ws => ⟨fun _ => ⟨k0, k0, fun w => absurd w hle, fun _ => ⟨k0, k0, _, r2, k2, hvp, ?_⟩⟩, fun z => absurd rfl z⟩)
      · show wp_X12_isDigit (gI (N2 S mo f (f + 1)) 0 (mo + 2) (gI (N2 S mo f (f + 1)) 197 mo 0).toNatClampNeg) _ _
        rw [hch]
        refine m_isDigit h255 (fun wd => ?_) (fun wd => ⟨fun _ => lp (i := f + 1) (Or.inl ⟨rfl, rfl, rfl⟩) (by omega) (by rw [tE_sm hfL ws, rn_go hfL ws]), fun z => absurd rfl z⟩)
        rw [isSm_iff] at ws
        rw [isDg_iff] at wd
        omega
      · show wp_X12_isDigit (gI (N2 S mo f (f + 1)) 0 (mo + 2) (gI (N2 S mo f (f + 1)) 197 mo 0).toNatClampNeg) _ _
        rw [hch]
        exact m_isDigit h255 (fun wd => ⟨fun z => absurd z (by decide), fun _ => lp (i := f + 1) (Or.inr (Or.inl ⟨rfl, rfl, rfl⟩)) (by omega) (by rw [tE_dg hfL wd, rn_go hfL wd])⟩) (fun wd => ⟨fun _ => lp (i := f + 1) (Or.inr (Or.inr ⟨rfl, rfl, rfl⟩)) (by omega) (by rw [tE_ot hfL ws wd, none]), fun z => absurd rfl z⟩)
  refine Lp_of (fun n y => ∃ i, i ≤ L ∧ n = L - i ∧ rn isSp T L i = rn isSp T L b ∧ y = sI S 197 mo 0 (nI i)) (fun n y hy K hK => ?_) (n := L - b) ⟨b, hb, rfl, rfl, rfl⟩
  obtain ⟨i, i1, rfl, i2, rfl⟩ := hy
  have e6 : gI (sI S 197 mo 0 (nI i)) 196 mo 0 = nI L := by rw [gI_sI, if_neg (by omega)]; exact ht1
  have e7 : gI (sI S 197 mo 0 (nI i)) 197 mo 0 = nI i := by rw [gI_sI, if_pos ⟨rfl, rfl, rfl⟩]
  have e0 : ∀ a k, gI (sI S 197 mo 0 (nI i)) 0 a k = gI S 0 a k := fun a k => by rw [gI_sI, if_neg (by omega)]
  have fin2 : rn isSp T L i = i → wp_X12_next_46 Q mo (sI S 197 mo 0 (nI i)) := fun hr => fin i (by unfold tF; rw [← i2, hr])
  refine ⟨k0, k0, fun hc => fin2 ?_, fun hc => ⟨k0, k0, _, r2, k2, ?_, fun hd => fin2 ?_, fun hd => ⟨k0, k0, ?_⟩⟩⟩
  · try dsimp only at hc
    rw [e6, e7, nI_leI (by omega) (by omega)] at hc
    exact rn_end hc
  · try dsimp only at hc ⊢
    rw [e6, e7, nI_leI (by omega) (by omega)] at hc
    rw [e7]
    show vp_in _ (ln S (mo + 2))
    rw [l2]
    exact vp_li (by omega) (by omega)
  · try dsimp only at hc hd
    rw [e6, e7, nI_leI (by omega) (by omega)] at hc
    have h255 := (ht3 i (by omega)).2
    rw [e7, nI_clamp (by omega), e0, (ht3 i (by omega)).1, li_32, nI_ne (by omega) (by omega)] at hd
    exact rn_no (fun w => hd (isSp_iff.mp w))
  · try dsimp only at hc hd
    rw [e6, e7, nI_leI (by omega) (by omega)] at hc
    have h255 := (ht3 i (by omega)).2
    rw [e7, nI_clamp (by omega), e0, (ht3 i (by omega)).1, li_32, nI_eq (by omega) (by omega)] at hd
    rintro _ rfl
    try dsimp only
    rw [e7, nI_1, sI_sI]
    exact hK _ (L - (i + 1)) (by omega) ⟨i + 1, by omega, rfl, by rw [← i2, rn_go (by omega) (isSp_iff.mpr hd)], rfl⟩
end MTOK
/-! ===== the four words ===== -/
theorem wd_ok : ∀ w, w < 4 → (3 ≤ wlen w ∧ wlen w ≤ 7) ∧ ∀ k, k < 7 → (k < wlen w → 97 ≤ wdT (7 * w + k) ∧ wdT (7 * w + k) ≤ 122) ∧ (wlen w ≤ k → wdT (7 * w + k) = 0) := by decide
theorem wIs_iff {T : Nat → Nat} {L f w : Nat} (hw : w < 4) (hf : f ≤ L) : wIs T L f w ↔ (f < tE T L f ∧ tE T L f - f < 8) ∧ ∀ k, k < 7 → wdT (7 * w + k) = if f + k < tE T L f then T (f + k) else 0 := by
  obtain ⟨⟨w1, w2⟩, w3⟩ := wd_ok w hw
  constructor
  · rintro ⟨h1, h2⟩
    refine ⟨by omega, fun k hk => ?_⟩
    by_cases h : k < wlen w
    · rw [if_pos (by omega), h2 k h]
    · rw [if_neg (by omega)]
      exact (w3 k hk).2 (by omega)
  · rintro ⟨⟨h1, h2⟩, h3⟩
    have hlt : f < L := by
      rcases Nat.lt_or_ge f L with g | g
      · exact g
      · rw [tE_end g] at h1
        omega
    have hge : ∀ k, k < wlen w → f + k < tE T L f := fun k hk => by
      by_cases g : f + k < tE T L f
      · exact g
      · have := h3 k (by omega)
        rw [if_neg g] at this
        have := ((w3 k (by omega)).1 hk).1
        omega
    have h0 := h3 0 (by omega)
    rw [if_pos (by omega)] at h0
    have hs : isSm (T f) = true := by
      have := (w3 0 (by omega)).1 (by omega)
      rw [h0] at this
      exact isSm_iff.mpr this
    have hl := hge (wlen w - 1) (by omega)
    have he : tE T L f = f + wlen w := by
      by_cases g : wlen w < 7
      · by_cases g2 : f + wlen w < tE T L f
        · have a1 := h3 (wlen w) g
          rw [if_pos g2, (w3 (wlen w) g).2 (Nat.le_refl _)] at a1
          have a2 := isSm_iff.mp (tE_alls hlt hs (i := f + wlen w) (by omega) g2)
          omega
        · omega
      · omega
    refine ⟨he, fun k hk => ?_⟩
    have := h3 k (by omega)
    rw [if_pos (by omega)] at this
    exact this.symm
section MTOK2
variable {S : Hp} {mo : Nat} {σ : Sg} {T : Nat → Nat} {L : Nat}
theorem m_wordHere {Q : Int32 → Prop} {f : Nat} (h : TX S mo T L) (hk : gR S 203 mo 0 = some (mo + 4) ∧ kd S (mo + 4) = 20 ∧ ln S (mo + 4) = 28) (hw : ∀ i, i < 28 → gI S 0 (mo + 4) i = nI (wdT i)) (h7 : gI S 197 mo 0 = nI f) (h8 : gI S 198 mo 0 = nI (tE T L f)) (hf : f ≤ L) (h1 : ∀ w, w < 4 → wIs T L f w → (∀ v, v < w → ¬ wIs T L f v) → Q (nI w)) (h0 : (∀ v, v < 4 → ¬ wIs T L f v) → Q (-1)) : wp_X12_wordHere mo S Q := by
  obtain ⟨k0, ⟨r2, k2, l2⟩, ht1, ht2, ht3⟩ := id h
  obtain ⟨r4, k4, l4⟩ := hk
  have hel := tE_le (T := T) hf
  have heg := tE_ge (T := T) (L := L) (f := f)
  have hwb : ∀ i, i < 28 → wdT i ≤ 255 := by decide
  refine Lp_of (fun n y => ∃ w, w ≤ 4 ∧ n = 4 - w ∧ y = nI w ∧ ∀ v, v < w → ¬ wIs T L f v) (fun n y hy K hK => ?_) (n := 4) (x := nI 0) ⟨0, by omega, rfl, rfl, fun v hv => absurd hv (Nat.not_lt_zero v)⟩
  obtain ⟨w, hw4, rfl, rfl, hno⟩ := hy
  refine ⟨fun hc => ?_, fun hc => ?_⟩
  · try dsimp only at hc
    rw [li_4, nI_leI (by omega) (by omega)] at hc
    obtain rfl : w = 4 := by omega
    exact h0 hno
  · try dsimp only at hc ⊢
    rw [li_4, nI_leI (by omega) (by omega)] at hc
    have hiff := wIs_iff (T := T) (w := w) (by omega) hf
    have nxt : ¬ wIs T L f w → wp_X12_wordHere_104 (fun w0 => K w0) Q mo (nI w) 0 S := fun hn => by
      refine ⟨fun _ => ?_, fun z => absurd rfl z⟩
      rintro _ rfl
      rw [nI_1]
      refine hK _ (4 - (w + 1)) (by omega) ⟨w + 1, by omega, rfl, rfl, fun v hv => ?_⟩
      by_cases e : v = w
      · rw [e]
        exact hn
      · exact hno v (by omega)
    have zero : ¬ wIs T L f w → ∀ v3, wp_X12_wordHere_40 (fun w0 => K w0) Q mo (nI w) 0 v3 S := fun hn v3 => by
      refine Lp_of (fun n y => y = ((0 : Int32), v3)) (fun n y hy K2 hK2 => ?_) (n := 0) rfl
      subst hy
      exact ⟨fun _ => nxt hn, fun _ => ⟨fun _ => nxt hn, fun z => absurd rfl z⟩⟩
    refine ⟨k0, k0, fun hd => ?_, fun hd => ⟨k0, k0, fun he => ?_, fun he => ?_⟩⟩
    · rw [h7, h8, nI_leI (by omega) (by omega)] at hd
      exact zero (fun z => by have := (hiff.mp z).1; omega) _
    · rw [h7, h8, pk_sub heg, li_8, nI_leI (by omega) (by omega)] at he
      exact zero (fun z => by have := (hiff.mp z).1; omega) _
    · rw [h7, h8, nI_leI (by omega) (by omega)] at hd
      rw [h7, h8, pk_sub heg, li_8, nI_leI (by omega) (by omega)] at he
      refine Lp_of (fun n y => (∃ k, k ≤ 7 ∧ n = 8 - k ∧ y = ((1 : Int32), nI k) ∧ ∀ j, j < k → wdT (7 * w + j) = if f + j < tE T L f then T (f + j) else 0) ∨ (n = 0 ∧ ∃ v3, y = ((0 : Int32), v3) ∧ ¬ wIs T L f w)) (fun n y hy K2 hK2 => ?_) (n := 8) (x := ((1 : Int32), nI 0)) (Or.inl ⟨0, by omega, rfl, rfl, fun j hj => absurd hj (Nat.not_lt_zero j)⟩)
      rcases hy with ⟨k, hk7, rfl, rfl, hall⟩ | ⟨rfl, v3, rfl, hn⟩
      · refine ⟨fun hg => ?_, fun hg => ⟨fun z => absurd z (show ¬ (1 : Int32) = 0 by decide), fun _ => ⟨k0, _, r4, k4, ?_, k0, k0, fun hp => ?_, fun hp => ⟨k0, k0, _, r2, k2, ?_, ?_⟩⟩⟩⟩
        · try dsimp only at hg ⊢
          rw [li_7, nI_leI (by omega) (by omega)] at hg
          obtain rfl : k = 7 := by omega
          exact ⟨fun z => absurd z (by decide), fun _ => h1 w (by omega) (hiff.mpr ⟨by omega, hall⟩) hno⟩
        · try dsimp only at hg ⊢
          rw [li_7, nI_leI (by omega) (by omega)] at hg
          rw [li_7, pk_mul, nI_add, l4]
          exact vp_li (by omega) (by omega)
        · try dsimp only at hg hp ⊢
          rw [li_7, nI_leI (by omega) (by omega)] at hg
          rw [h7, h8, nI_add, nI_leI (by omega) (by omega)] at hp
          have hb := hwb (7 * w + k) (by omega)
          rw [li_7, pk_mul, nI_add, nI_clamp (by omega), hw _ (by omega)]
          refine ⟨fun hne => ?_, fun heq => ?_⟩
          · rintro _ rfl
            rw [li_0, nI_ne (by omega) (by omega)] at hne
            refine hK2 _ 0 (by omega) (Or.inr ⟨rfl, _, rfl, fun z => hne ?_⟩)
            rw [(hiff.mp z).2 k (by omega), if_neg (by omega)]
          · rintro _ rfl
            rw [li_0, nI_eq (by omega) (by omega)] at heq
            rw [nI_1]
            refine hK2 _ (8 - (k + 1)) (by omega) (Or.inl ⟨k + 1, by omega, rfl, rfl, fun j hj => ?_⟩)
            by_cases e : j = k
            · rw [e, if_neg (by omega)]
              exact heq
            · exact hall j (by omega)
        · try dsimp only at hg hp ⊢
          rw [h7, h8, nI_add, nI_leI (by omega) (by omega)] at hp
          rw [h7, nI_add, l2]
          exact vp_li (by omega) (by omega)
        · try dsimp only at hg hp ⊢
          rw [li_7, nI_leI (by omega) (by omega)] at hg
          rw [h7, h8, nI_add, nI_leI (by omega) (by omega)] at hp
          have hb := hwb (7 * w + k) (by omega)
          have hc := ht3 (f + k) (by omega)
          rw [li_7, pk_mul, nI_add, nI_clamp (by omega), hw _ (by omega), h7, nI_add, nI_clamp (by omega), hc.1]
          refine ⟨fun hne => ?_, fun heq => ?_⟩
          · rintro _ rfl
            rw [nI_ne (by omega) (by omega)] at hne
            refine hK2 _ 0 (by omega) (Or.inr ⟨rfl, _, rfl, fun z => hne ?_⟩)
            rw [(hiff.mp z).2 k (by omega), if_pos (by omega)]
          · rintro _ rfl
            rw [nI_eq (by omega) (by omega)] at heq
            rw [nI_1]
            refine hK2 _ (8 - (k + 1)) (by omega) (Or.inl ⟨k + 1, by omega, rfl, rfl, fun j hj => ?_⟩)
            by_cases e : j = k
            · rw [e, if_pos (by omega)]
              exact heq
            · exact hall j (by omega)
      · exact ⟨fun _ => nxt hn, fun _ => ⟨fun _ => nxt hn, fun z => absurd rfl z⟩⟩
end MTOK2
