section CPACK
variable {S : Hp} {x : Nat} {σ : Sg}
theorem C_packets2 {Q : Int32 → Hp → Prop} {n : Int32} (hS : CS S x σ) (hV : V σ.1) (h : ∀ S', CS S' x (oPackets σ n).2 → KO x S S' → Q (oPackets σ n).1 S') : wp_X11_packets x n S Q := C_packets hS hV fun S' h1 h2 _ => h S' h1 fun a a1 a2 => h2 a (by omega) (by omega) (by omega)
theorem LineAt_cg {wd : Nat → Prop} {lo la : Nat} {q q' : Nat → Nat} (hV : V q) (e : ∀ k, k < 93 → q' k = q k) (h : LineAt S wd lo la q) : LineAt S wd lo la q' := by
  obtain ⟨⟨l1, l2, l3⟩, l4, l5⟩ := h
  have h6 := hV.2.2.1
  refine ⟨⟨by rw [e 2 (by omega)]; exact l1, by rw [e 0 (by omega)]; exact l2, by rw [e 1 (by omega)]; exact l3⟩, l4, fun p hp => ?_⟩
  rw [e 2 (by omega)] at hp
  have hl := (hV.2.2.2.1 p hp).1.2
  obtain ⟨a, ha, hp'⟩ := l5 p hp
  rw [e _ (by omega), e _ (by omega), e _ (by omega)]
  exact ⟨a, ha, PartAt_cg (fun i hi => e _ (by omega)) hp'⟩
def KPP (S : Hp) (x : Nat) (σ : Sg) (bo t : Nat) (S1 : Hp) : Prop := CK S1 x ∧ (sz S1 = sz S ∧ kd S1 = kd S ∧ ln S1 = ln S) ∧ KO x S S1 ∧ x + 111 ≤ bo ∧ gR S1 183 x 0 = some bo ∧ ∃ wd, BoxAt S1 wd (x + 111) bo σ.1 ∧ ∀ (S2 : Hp) (q' : Nat → Nat), kd S2 = kd S1 → ln S2 = ln S1 → sz S2 = sz S1 → gR S2 = gR S1 → (∀ f a i, ¬ (a = bo + 4 + 3 * t ∧ i = 0 ∧ (f = 67 ∨ f = 68)) → ¬ (a = bo + 6 + 3 * t ∧ f = 0 ∧ i < 40) → gI S2 f a i = gI S1 f a i) → gI S2 67 (bo + 4 + 3 * t) 0 = nI (q' (122 + t)) → gI S2 68 (bo + 4 + 3 * t) 0 = nI (q' (114 + t)) → (∀ i, i < σ.1 95 → gI S2 0 (bo + 6 + 3 * t) i = nI (q' (450 + 40 * t + i))) → (∀ k, k ≠ 122 + t → k ≠ 114 + t → ¬ (450 + 40 * t ≤ k ∧ k < 490 + 40 * t) → q' k = σ.1 k) → CS S2 x (push σ q')
theorem b01 {n : Nat} (h : n ≤ 1) : nI n = 0 ∨ nI n = 1 := by
  have : n = 0 ∨ n = 1 := by omega
  rcases this with rfl | rfl
  · exact Or.inl rfl
  · exact Or.inr rfl
theorem c_keepP {Q : Hp → Prop} {bo t : Nat} (hS : CS S x σ) (hV : V σ.1) (hb : gR S 183 x 0 = some bo) (htt : t < σ.1 94) (h : ∀ S1, KPP S x σ bo t S1 → Q S1) : wp_X9_keep (x + 53) (x + 29) bo (some (bo + 4 + 3 * t)) S Q := by
  obtain ⟨hC, hz, ht, h01, bo', nx, wd, ⟨hb', hbo⟩, ⟨hnx, h146, h147, hu⟩, hwk, hL, hB, hU⟩ := id hS
  have e : bo = bo' := Option.some.inj (hb.symm.trans hb')
  subst e
  have h8 := hV.2.2.2.2.1.2.1
  have hlo : x + 111 ≤ bo := by
    rcases hB.1 with g | g
    · exact g
    · omega
  obtain ⟨⟨b1, b2, b3, b4, b5⟩, b6, b7, b8⟩ := hB.2.2.2.2.2.2 t htt
  have h68 : gI S 68 (bo + 4 + 3 * t) 0 = 0 ∨ gI S 68 (bo + 4 + 3 * t) 0 = 1 := by
    rw [b7]
    exact b01 (hV.2.2.2.2.2.2.1 t (by omega)).1
  have hfr := keep_fr (S := S) (x := x) (nx := nx) (bo := bo) (u := σ.2.1.length) (r := some (bo + 4 + 3 * t)) hnx
  refine c_keep (u := σ.2.1.length) hC hnx hu h146 h147 hL.2.1 (fun pa hp => ?_) (h _ ⟨keep_CK hnx hC, ⟨keep_sz, keep_kd, keep_ln⟩, KO_keep hnx, hlo, ?_, wd, ?_, ?_⟩)
  · cases hp
    exact ⟨by omega, b2, by rw [show bo + 4 + 3 * t + 2 = bo + 6 + 3 * t by omega]; exact b4, h68⟩
  · rw [(hfr.2 x ⟨by omega, by omega⟩ 183 0).2]
    exact hb
  · exact BoxAt_fr hfr (fun a ha _ => by omega) (fun _ _ w => w) (fun a g1 g2 _ => by omega) hB
  · intro S2 q' hk2 hl2 hs2 hR2 hI2 h67 h68' h450 hq
    have hk : ∀ a, kd S2 a = kd S a := fun a => by rw [hk2, keep_kd]
    have hln : ∀ a, ln S2 a = ln S a := fun a => by rw [hl2, keep_ln]
    have hFl : Fr (fun a => a ≠ x + 53 ∧ ¬ (x + 55 + 6 * nx ≤ a ∧ a ≤ x + 60 + 6 * nx) ∧ a ≠ bo + 4 + 3 * t ∧ a ≠ bo + 6 + 3 * t) S S2 := ⟨fun a _ => ⟨hk a, hln a⟩, fun a ha f i => ⟨(hI2 f a i (by omega) (by omega)).trans (hfr.2 a ⟨ha.1, ha.2.1⟩ f i).1, by rw [hR2]; exact (hfr.2 a ⟨ha.1, ha.2.1⟩ f i).2⟩⟩
    have q93 : q' 93 = σ.1 93 := hq _ (by omega) (by omega) (by omega)
    have q94 : q' 94 = σ.1 94 := hq _ (by omega) (by omega) (by omega)
    have q95 : q' 95 = σ.1 95 := hq _ (by omega) (by omega) (by omega)
    refine CS_gen (bo2 := bo) (r := some (bo + 4 + 3 * t)) hC ht h01 hbo hnx hu hwk hL hB hU hV.2.2.1 (Or.inr ⟨t, htt, hlo, rfl⟩) (fun pa hp => by cases hp; exact h68) (fun a _ => ⟨hk a, hln a⟩) (fun a _ _ _ _ f i => by rw [hR2]) (fun a _ _ _ _ f i hp => ?_) ⟨fun a ha => by rw [hk]; exact hz.1 a (by rw [hs2, keep_sz] at ha; exact ha), by rw [hs2, keep_sz]; exact hz.2⟩ ?_ ?_ hbo ?_ ?_
    · have := hp _ rfl
      exact hI2 f a i (by omega) (by omega)
    · refine CK_tr (S := keepH S x nx bo σ.2.1.length (some (bo + 4 + 3 * t))) (fun a _ => ⟨by rw [hk2], by rw [hl2]⟩) (fun f a i _ _ => by rw [hR2]) (keep_CK hnx hC)
    · rw [hR2, (hfr.2 x ⟨by omega, by omega⟩ 183 0).2]
      exact hb
    · refine LineAt_cg hV (fun k hk => hq _ (by omega) (by omega) (by omega)) (LineAt_fr hFl (fun a ha _ hka => ⟨by omega, by omega, fun e => ?_, fun e => ?_⟩) (fun _ w => w) ⟨by omega, by omega, by omega, by omega⟩ ⟨by omega, by omega, by omega, by omega⟩ hL)
      · rw [e, b2] at hka
        rcases hka with g | g
        · omega
        · have := hwk _ g
          omega
      · rw [e, b4.2.1] at hka
        rcases hka with g | g
        · omega
        · exact b5 g
    · obtain ⟨g0, ⟨g1, g2, g3, g4⟩, g5, g6, g7, g8, g9⟩ := hB
      have Rb : ∀ j, j ≤ 3 → (fun a => a ≠ x + 53 ∧ ¬ (x + 55 + 6 * nx ≤ a ∧ a ≤ x + 60 + 6 * nx) ∧ a ≠ bo + 4 + 3 * t ∧ a ≠ bo + 6 + 3 * t) (bo + j) := fun j hj => ⟨by omega, by omega, by omega, by omega⟩
      unfold BoxAt
      rw [q93, q94, q95]
      refine ⟨g0, ⟨kd_fr hFl (by decide) g1, gI_fr hFl (Rb 0 (by omega)) g2, gI_fr hFl (Rb 0 (by omega)) g3, gI_fr hFl (Rb 0 (by omega)) g4⟩, AR_fr hFl (Rb 0 (by omega)) (by decide) g5, AR_fr hFl (Rb 0 (by omega)) (by decide) g6, AR_fr hFl (Rb 0 (by omega)) (by decide) g7, fun p hp => ?_, fun j hj => ?_⟩
      · have h6' := hV.2.2.2.2.1.1
        rw [hq (97 + 3 * p) (by omega) (by omega) (by omega), hq (96 + 3 * p) (by omega) (by omega) (by omega), hq (98 + 3 * p) (by omega) (by omega) (by omega)]
        obtain ⟨⟨a, h1, h2, h3, h4, w, h5, h6⟩, h7⟩ := g8 p hp
        have ra : (fun a => a ≠ x + 53 ∧ ¬ (x + 55 + 6 * nx ≤ a ∧ a ≤ x + 60 + 6 * nx) ∧ a ≠ bo + 4 + 3 * t ∧ a ≠ bo + 6 + 3 * t) a := by
          refine ⟨by omega, by omega, fun e => ?_, fun e => ?_⟩
          · rw [e, b2] at h3
            omega
          · rw [e, b4.2.1] at h3
            omega
        exact ⟨⟨a, gR_fr hFl (Rb 1 (by omega)) h1, h2, kd_fr hFl (by decide) h3, gI_fr hFl ra h4, w, h5, AR_fr hFl ra (by decide) h6⟩, gI_fr hFl (Rb 2 (by omega)) h7⟩
      · obtain ⟨⟨h1, h2, h3, h4, h5⟩, h6, h7, h8⟩ := g9 j hj
        have hR3 : ∀ f a i, (x + 111 ≤ a) → gR S2 f a i = gR S f a i := fun f a i ha => by rw [hR2]; exact (hfr.2 a ⟨by omega, by omega⟩ f i).2
        have hrr : ∀ {f o a k n : Nat}, x + 111 ≤ o → AR S f o a k n → AR S2 f o a k n := fun ho g => ⟨(hR3 _ _ _ ho).trans g.1, (hk _).trans g.2.1, (hln _).trans g.2.2⟩
        refine ⟨⟨(hR3 _ _ _ (by omega)).trans h1, (hk _).trans h2, hrr (by omega) h3, hrr (by omega) h4, h5⟩, ?_⟩
        have h40 := hV.2.2.2.2.1.2.2
        by_cases hjt : j = t
        · subst hjt
          refine ⟨h67, h68', fun i hi => ⟨?_, h450 i hi⟩⟩
          rw [hq _ (by omega) (by omega) (by omega)]
          exact gI_fr hFl ⟨by omega, by omega, by omega, by omega⟩ (h8 i hi).1
        · rw [hq (122 + j) (by omega) (by omega) (by omega), hq (114 + j) (by omega) (by omega) (by omega)]
          refine ⟨gI_fr hFl ⟨by omega, by omega, by omega, by omega⟩ h6, gI_fr hFl ⟨by omega, by omega, by omega, by omega⟩ h7, fun i hi => ?_⟩
          rw [hq (130 + 40 * j + i) (by omega) (by omega) (by omega), hq (450 + 40 * j + i) (by omega) (by omega) (by omega)]
          exact ⟨gI_fr hFl ⟨by omega, by omega, by omega, by omega⟩ (h8 i hi).1, gI_fr hFl ⟨by omega, by omega, by omega, by omega⟩ (h8 i hi).2⟩
theorem c_hasPacket {bo n : Nat} {t : Int32} {Q : Int32 → Prop} (h3 : kd S bo = 4) (hn : gI S 53 bo 0 = nI n) (h6 : n ≤ 8) (h1 : ∀ j, j < n → t = nI j → Q 1) (h0 : ¬ vp_in t n → Q 0) : wp_X3_hasPacket bo t S Q := by
  refine ⟨h3, ?_⟩
  rw [hn]
  exact c_withinN (by omega) (fun j hj hx => ⟨Or.inr rfl, h1 j hj hx⟩) (fun h => ⟨Or.inl rfl, h0 h⟩)
theorem c_hasPart {bo n : Nat} {t : Int32} {Q : Int32 → Prop} (h3 : kd S bo = 4) (hn : gI S 50 bo 0 = nI n) (h6 : n ≤ 8) (h1 : ∀ j, j < n → t = nI j → Q 1) (h0 : ¬ vp_in t n → Q 0) : wp_X3_hasPart bo t S Q := by
  refine ⟨h3, ?_⟩
  rw [hn]
  exact c_withinN (by omega) (fun j hj hx => ⟨Or.inr rfl, h1 j hj hx⟩) (fun h => ⟨Or.inl rfl, h0 h⟩)
theorem c_holds {pa l e : Nat} {i : Int32} {Q : Int32 → Prop} (h5 : kd S pa = 5) (hl : gI S 67 pa 0 = nI l) (he : gI S 68 pa 0 = nI e) (hl4 : l ≤ 40) (he1 : e ≤ 1) (h1 : ∀ j, j < l → i = nI j → e = 0 → Q 1) (h0 : ¬ (e = 0 ∧ vp_in i l) → Q 0) : wp_X4_holds pa i S Q := by
  refine ⟨h5, fun hc => ⟨Or.inl rfl, h0 fun w => hc ?_⟩, fun hc => ⟨h5, ?_⟩⟩
  · rw [he, w.1]
    rfl
  · have hz : e = 0 := nI_inj (by omega) (by omega) (by rw [← he]; exact hc)
    rw [hl]
    exact c_withinN (by omega) (fun j hj hx => ⟨fun w => absurd w (by decide), fun _ => ⟨Or.inr rfl, h1 j hj hx hz⟩⟩) (fun hn => ⟨fun _ => ⟨Or.inl rfl, h0 fun w => hn w.2⟩, fun w => absurd rfl w⟩)
theorem C_lose {Q : Int32 → Hp → Prop} {t : Int32} (hS : CS S x σ) (hV : V σ.1) (h : ∀ S', CS S' x (oLose σ t).2 → KO x S S' → Q (oLose σ t).1 S') : wp_X11_lose x t S Q := by
  obtain ⟨hC, hz, ht, h01, bo, nx, wd, ⟨hb, hbo⟩, -, -, hL, hB, -⟩ := id hS
  obtain ⟨⟨f0, f1, f2, f3, f4, f5, f6⟩, -, -, ⟨i1, i2⟩, -, -, m1, m2, m3⟩ := id hC
  have h8 := hV.2.2.2.2.1.2.1
  unfold oLose at h
  obtain ⟨g0, ⟨g1, g2, g3, g4⟩, g5, g6, ⟨g7, g7', g7''⟩, g8, g9⟩ := id hB
  refine ⟨f0, _, hb, g1, c_hasPacket g1 g3 h8 (fun j hj hp => ⟨fun _ => ?_, fun w => absurd w (by decide)⟩) (fun hn => ⟨fun w => absurd rfl w, fun _ => ?_⟩)⟩
  · subst hp
    rw [if_pos ((okN_nI (by omega)).mpr hj), tn_nI (by omega)] at h
    have hv := hV.2.2.2.2.2.2.1 j (by omega)
    obtain ⟨⟨b1, b2, b3, b4, b5⟩, b6, b7, b8⟩ := g9 j hj
    refine ⟨f0, _, hb, g1, _, g7, g7', by rw [g7'']; exact vp_li hj (by omega), _, by rw [nI_clamp (by omega)]; exact b1, b2, fun hc => ?_, fun hc => ?_⟩
    · rw [b7, li_0, nI_eq (by omega) (by omega)] at hc
      rw [if_neg (by omega)] at h
      refine ⟨f0, f0, f0, _, f3, _, hb, _, f4, m1, c_keepP hS hV hb hj fun S1 hK => ?_⟩
      obtain ⟨hC1, ⟨hs, hk, hln⟩, hko, hlo, hb1, wd1, hB1, hfin⟩ := hK
      obtain ⟨⟨d1, d2, d3, d4, d5⟩, d6, d7, d8⟩ := hB1.2.2.2.2.2.2 j hj
      refine ⟨d2, Or.inr rfl, ?_⟩
      rintro _ rfl
      refine ⟨d2, ?_⟩
      rw [gI_sI, if_neg (by omega), d6]
      refine h _ (hfin _ _ rfl rfl rfl rfl (fun f a i a1 a2 => ?_) ?_ ?_ (fun i hi => ?_) (fun k k1 k2 k3 => ?_)) (KO_tr hko (KO_sI (by omega)))
      · rw [gI_sI, if_neg (by omega)]
      · rw [gI_sI, if_neg (by omega), va_up_ne _ _ (by omega)]
        exact d6
      · rw [gI_sI, if_pos ⟨rfl, rfl, rfl⟩, va_up_self]
        rfl
      · rw [gI_sI, if_neg (by omega), va_up_ne _ _ (by omega)]
        exact (d8 i hi).2
      · exact va_up_ne _ _ k2
    · rw [b7, li_0, nI_eq (by omega) (by omega)] at hc
      rw [if_pos (by omega)] at h
      exact h S hS (KO_rf x S)
  · rw [if_neg (fun w => hn (okN_vp.mpr w))] at h
    exact h S hS (KO_rf x S)
theorem C_cut {Q : Int32 → Hp → Prop} {t m : Int32} (hS : CS S x σ) (hV : V σ.1) (h : ∀ S', CS S' x (oCut σ t m).2 → KO x S S' → Q (oCut σ t m).1 S') : wp_X11_cut x t m S Q := by
  obtain ⟨hC, hz, ht, h01, bo, nx, wd, ⟨hb, hbo⟩, -, -, hL, hB, -⟩ := id hS
  obtain ⟨⟨f0, f1, f2, f3, f4, f5, f6⟩, -, -, ⟨i1, i2⟩, -, -, m1, m2, m3⟩ := id hC
  have h8 := hV.2.2.2.2.1
  unfold oCut at h
  obtain ⟨g0, ⟨g1, g2, g3, g4⟩, g5, g6, ⟨g7, g7', g7''⟩, g8, g9⟩ := id hB
  refine ⟨f0, _, hb, g1, c_hasPacket g1 g3 h8.2.1 (fun j hj hp => ⟨fun _ => ?_, fun w => absurd w (by decide)⟩) (fun hn => ⟨fun w => absurd rfl w, fun _ => ?_⟩)⟩
  · subst hp
    rw [if_pos ((okN_nI (by omega)).mpr hj), tn_nI (by omega)] at h
    have hv := hV.2.2.2.2.2.2.1 j (by omega)
    obtain ⟨⟨b1, b2, b3, b4, b5⟩, b6, b7, b8⟩ := g9 j hj
    refine ⟨f0, _, hb, g1, _, g7, g7', by rw [g7'']; exact vp_li hj (by omega), _, by rw [nI_clamp (by omega)]; exact b1, b2, c_withinB (a := 0) (b := σ.1 (122 + j)) rfl (by rw [b6, nI_toInt (by omega)]) (by omega) (fun i _ hi hx => ⟨fun _ => ⟨b2, fun hc => ?_, fun hc => ?_⟩, fun w => absurd w (by decide)⟩) (fun hn => ⟨fun w => absurd rfl w, fun _ => ?_⟩)⟩
    · subst hx
      rw [if_pos ((okB_nI (by omega)).mpr ⟨by omega, hi⟩), tn_nI (by omega)] at h
      rw [b7, li_0, nI_eq (by omega) (by omega)] at hc
      rw [if_neg (by omega)] at h
      refine ⟨f0, f0, f0, _, f3, _, hb, _, f4, m1, c_keepP hS hV hb hj fun S1 hK => ?_⟩
      obtain ⟨hC1, ⟨hs, hk, hln⟩, hko, hlo, hb1, wd1, hB1, hfin⟩ := hK
      obtain ⟨⟨d1, d2, d3, d4, d5⟩, d6, d7, d8⟩ := hB1.2.2.2.2.2.2 j hj
      refine ⟨d2, ?_⟩
      rintro _ rfl
      refine ⟨d2, ?_⟩
      rintro _ rfl
      rw [d6, pk_sub hi]
      refine h _ (hfin _ _ rfl rfl rfl rfl (fun f a i a1 a2 => ?_) ?_ ?_ (fun i hi => ?_) (fun k k1 k2 k3 => ?_)) (KO_tr hko (KO_sI (by omega)))
      · rw [gI_sI, if_neg (by omega)]
      · rw [gI_sI, if_pos ⟨rfl, rfl, rfl⟩, va_up_self]
      · rw [gI_sI, if_neg (by omega), va_up_ne _ _ (by omega)]
        exact d7
      · rw [gI_sI, if_neg (by omega), va_up_ne _ _ (by omega)]
        exact (d8 i hi).2
      · exact va_up_ne _ _ k1
    · subst hx
      rw [if_pos ((okB_nI (by omega)).mpr ⟨by omega, hi⟩), tn_nI (by omega)] at h
      rw [b7, li_0, nI_eq (by omega) (by omega)] at hc
      rw [if_pos (by omega)] at h
      exact h S hS (KO_rf x S)
    · rw [if_neg hn] at h
      exact h S hS (KO_rf x S)
  · rw [if_neg (fun w => hn (okN_vp.mpr w))] at h
    exact h S hS (KO_rf x S)
theorem C_spoil {Q : Int32 → Hp → Prop} {t i v : Int32} (hS : CS S x σ) (hV : V σ.1) (h : ∀ S', CS S' x (oSpoil σ t i v).2 → KO x S S' → Q (oSpoil σ t i v).1 S') : wp_X11_spoil x t i v S Q := by
  obtain ⟨hC, hz, ht, h01, bo, nx, wd, ⟨hb, hbo⟩, -, -, hL, hB, -⟩ := id hS
  obtain ⟨⟨f0, f1, f2, f3, f4, f5, f6⟩, -, -, ⟨i1, i2⟩, -, -, m1, m2, m3⟩ := id hC
  have h8 := hV.2.2.2.2.1
  unfold oSpoil at h
  obtain ⟨g0, ⟨g1, g2, g3, g4⟩, g5, g6, ⟨g7, g7', g7''⟩, g8, g9⟩ := id hB
  refine ⟨f0, _, hb, g1, c_hasPacket g1 g3 h8.2.1 (fun j hj hp => ⟨fun w => absurd w (by decide), fun _ => ?_⟩) (fun hn => ⟨fun _ => ?_, fun w => absurd rfl w⟩)⟩
  · subst hp
    rw [tn_nI (by omega)] at h
    have hv := hV.2.2.2.2.2.2.1 j (by omega)
    obtain ⟨⟨b1, b2, b3, b4, b5⟩, b6, b7, b8⟩ := g9 j hj
    refine ⟨f0, _, hb, g1, _, g7, g7', by rw [g7'']; exact vp_li hj (by omega), _, by rw [nI_clamp (by omega)]; exact b1, b2, c_holds b2 b6 b7 (by omega) (by omega) (fun k hk hx hz0 => ⟨fun _ => ?_, fun w => absurd w (by decide)⟩) (fun hn => ⟨fun w => absurd rfl w, fun _ => ?_⟩)⟩
    · subst hx
      rw [if_pos ⟨(okN_nI (by omega)).mpr hj, (okN_nI (by omega)).mpr hk, hz0⟩, tn_nI (by omega)] at h
      refine c_withinB (a := 0) (b := 28) rfl rfl (by omega) (fun v _ hv2 hx => ⟨fun _ => ?_, fun w => absurd w (by decide)⟩) (fun hn => ⟨fun w => absurd rfl w, fun _ => ?_⟩)
      · subst hx
        rw [if_pos ((okB_nI (by omega)).mpr ⟨by omega, hv2⟩), tn_nI (by omega)] at h
        refine ⟨f0, _, hb, g1, _, g7, g7', by rw [g7'']; exact vp_li hj (by omega), _, by rw [nI_clamp (by omega)]; exact b1, f0, f0, f0, _, f3, _, hb, _, f4, m1, c_keepP hS hV hb hj fun S1 hK => ?_⟩
        obtain ⟨hC1, ⟨hs, hk', hln⟩, hko, hlo, hb1, wd1, hB1, hfin⟩ := hK
        obtain ⟨⟨d1, d2, d3, d4, d5⟩, d6, d7, d8⟩ := hB1.2.2.2.2.2.2 j hj
        refine ⟨d2, _, d4.1, d4.2.1, by rw [d4.2.2]; exact vp_li (by omega) (by omega), ?_⟩
        rintro _ rfl
        refine ⟨d2, _, d4.1, d4.2.1, by rw [d4.2.2]; exact vp_li (by omega) (by omega), ?_⟩
        rintro _ rfl
        rw [nI_clamp (by omega), (d8 k (by omega)).2]
        refine h _ (hfin _ _ rfl rfl rfl rfl (fun f a i a1 a2 => ?_) ?_ ?_ (fun i hi => ?_) (fun k' k1 k2 k3 => ?_)) (KO_tr hko (KO_sI (by omega)))
        · rw [gI_sI, if_neg (by omega)]
        · rw [gI_sI, if_neg (by omega), va_up_ne _ _ (by omega)]
          exact d6
        · rw [gI_sI, if_neg (by omega), va_up_ne _ _ (by omega)]
          exact d7
        · by_cases hik : i = k
          · subst hik
            rw [gI_sI, if_pos ⟨rfl, rfl, rfl⟩, va_up_self]
          · rw [gI_sI, if_neg (by omega), va_up_ne _ _ (by omega)]
            exact (d8 i hi).2
        · exact va_up_ne _ _ (by omega)
      · rw [if_neg hn] at h
        exact h S hS (KO_rf x S)
    · rw [if_neg (fun w => hn ⟨w.2.2, okN_vp.mpr w.2.1⟩)] at h
      exact h S hS (KO_rf x S)
  · rw [if_neg (fun w => hn (okN_vp.mpr w.1))] at h
    exact h S hS (KO_rf x S)
end CPACK
