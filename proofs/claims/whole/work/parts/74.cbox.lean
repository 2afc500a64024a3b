section CBOX
variable {S : Hp} {x : Nat} {σ : Sg} {q : Nat → Nat} {wd : Nat → Prop} {bo : Nat}
theorem hol_sub {i : Nat} (h8 : q 94 ≤ 8) : List.Sublist (hol q i (q 94)) (List.range 8) := by
  rw [← hm_pts h8]
  exact List.filter_sublist
theorem yv_lt (hV : V q) {i : Nat} (hi : i < 40) : ∀ t, t < 8 → yv q i t < 29 := fun t ht => by
  have := (hV.2.2.2.2.2.2.2 t ht i hi).2
  show q (450 + 40 * t + i) < 29
  omega
theorem onc_full {y : Nat → Nat} {k : Nat} {H : List Nat} {c : Nat → Nat} : H.length ≤ onc y k H c ↔ ∀ t, t ∈ H → at29 c k (t + 1) = y t := by
  have hle : onc y k H c ≤ H.length := List.length_filter_le _ _
  constructor
  · intro h t ht
    have e : (H.filter (fun t => decide (at29 c k (t + 1) = y t))).length = H.length := by
      unfold onc at h hle
      omega
    exact of_decide_eq_true (List.length_filter_eq_length_iff.mp e t ht)
  · intro h
    unfold onc
    rw [List.length_filter_eq_length_iff.mpr fun t ht => decide_eq_true (h t ht)]
    exact Nat.le_refl _
theorem BoxAt_sc {S' : Hp} (h : Sc x S S') (hbo : x + 111 ≤ bo ∨ bo = x + 49) (hB : BoxAt S wd (x + 111) bo q) : BoxAt S' wd (x + 111) bo q := BoxAt_fr (Sc_fr h) (fun a _ _ => by omega) (fun _ _ w => w) (fun a _ _ _ => by omega) hB
/-- gather, hasEnough -/
theorem c_stripesQ {p a w : Nat} {Q : Int32 → Prop} (hV : V q) (hp : p < q 93) (a3 : kd S a = 6) (a6 : AR S 81 a w 20 (q (96 + 3 * p))) (a4 : gI S 82 a 0 = nI (q (97 + 3 * p))) (h : Q (nI (qS q p))) : wp_X5_stripes a S Q := by
  have hv := hV.2.2.2.2.2.1 p hp
  have h8 := hV.2.2.2.2.1
  exact c_stripes a3 a6 a4 hv.1.2 hv.2.1.1 (by omega) h
theorem c_hasEnough {H : List Nat} {y : Nat → Nat} {k : Nat} {Q : Int32 → Prop} (hC : CK S x) (hG : CvG S (x + 43) H y k) (hH : H.length ≤ 8) (hk : k ≤ 8) (h1 : k ≤ H.length → Q 1) (h0 : ¬ k ≤ H.length → Q 0) : wp_X1_hasEnough (x + 43) S Q := by
  have c1 := hC.2.2.2.2.2.1.1
  refine ⟨c1, c1, fun hc => ?_, fun hc => ?_⟩
  · rw [hG.1, hG.2.1, nI_ltI (by omega) (by omega)] at hc
    exact ⟨Or.inl rfl, h0 (by omega)⟩
  · rw [hG.1, hG.2.1, nI_ltI (by omega) (by omega)] at hc
    exact ⟨Or.inr rfl, h1 (by omega)⟩
theorem fw_iff {p m k : Nat} : ∀ s, k ≤ fwS q p m s ↔ k ≤ m ∧ ∀ s', s' < s → k ≤ (hol q (q (98 + 3 * p) + s') (q 94)).length
  | 0 => ⟨fun h => ⟨h, fun s' hs' => by omega⟩, fun h => h.1⟩
  | s + 1 => by
    have ih := fw_iff (p := p) (m := m) (k := k) s
    unfold fwS
    rw [Nat.le_min, ih]
    exact ⟨fun h => ⟨h.1.1, fun s' hs' => by
      by_cases e : s' = s
      · subst e
        exact h.2
      · exact h.1.2 s' (by omega)⟩, fun h => ⟨⟨h.1, fun s' hs' => h.2 s' (by omega)⟩, h.2 s (by omega)⟩⟩
theorem C_stateOf {p : Nat} {Q : Int32 → Hp → Prop} (hC : CK S x) (hbo : x + 111 ≤ bo ∨ bo = x + 49) (hB : BoxAt S wd (x + 111) bo q) (hV : V q) (hp : p < q 93) (h : ∀ S', Sc x S S' → Q (nI (stS q p)) S') : wp_X3_stateOf bo (nI p) (x + 43) S Q := by
  have h8 := hV.2.2.2.2.1
  have hv := hV.2.2.2.2.2.1 p hp
  have hqs := qS_le hV hp
  refine Lp_of (fun n z => ∃ s v S', s ≤ qS q p ∧ n = qS q p - s ∧ z = (v, nI s, S') ∧ Sc x S S' ∧ (∀ s', s' < s → q (97 + 3 * p) ≤ (hol q (q (98 + 3 * p) + s') (q 94)).length) ∧ ((v = 1 ∧ ∀ s', s' < s → ¬ Dbt q p s') ∨ (v = 2 ∧ ∃ s', s' < s ∧ Dbt q p s'))) (fun n z hz K hK => ?_) (n := qS q p) (x := (1, nI 0, S)) ⟨0, 1, S, by omega, rfl, rfl, Sc_rf x S, fun s' hs' => by omega, Or.inl ⟨rfl, fun s' hs' => by omega⟩⟩
  obtain ⟨s, v, S1, hs, rfl, rfl, hsc, hen, hv01⟩ := hz
  have hC1 := CK_sc hsc hC
  have hB1 := BoxAt_sc hsc hbo hB
  obtain ⟨g0, ⟨g1, g2, g3, g4⟩, g5, g6, ⟨g7, g7', g7''⟩, g8, g9⟩ := id hB1
  obtain ⟨⟨a, a1, a2, a3, a4, wo, a5, a6⟩, a7⟩ := g8 p hp
  refine ⟨g1, _, g5.1, g5.2.1, by rw [g5.2.2]; exact vp_li (by omega) (by omega), a, by rw [nI_clamp (by omega)]; exact a1, a3, c_stripesQ hV hp a3 a6 a4 ?_⟩
  · dsimp only
    refine ⟨fun hc => ?_, fun hc => ⟨g1, ?_⟩⟩
    · rw [nI_leI (by omega) (by omega)] at hc
      obtain rfl : s = qS q p := by omega
      have hfw : ¬ fwS q p 8 (qS q p) < q (97 + 3 * p) := by
        have := (fw_iff (q := q) (p := p) (m := 8) (k := q (97 + 3 * p)) (qS q p)).mpr ⟨by omega, hen⟩
        omega
      have hQ := h S1 hsc
      unfold stS at hQ
      rw [if_neg hfw] at hQ
      rcases hv01 with ⟨rfl, hn⟩ | ⟨rfl, hd⟩
      · rw [cI_neg (fun w => hn _ w.choose_spec.1 w.choose_spec.2)] at hQ
        exact hQ
      · rw [cI_pos hd] at hQ
        exact hQ
    · rw [nI_leI (by omega) (by omega)] at hc
      have hpl := pl_lt hV hp (s := s) (by omega)
      have hl := hol_le q (q (98 + 3 * p) + s) (q 94)
      refine c_gather hC1 hB1 hV hp (by omega) fun S2 hsc2 hG2 => ⟨(CK_sc hsc2 hC1).2.2.2.2.2.1.1, c_hasEnough (CK_sc hsc2 hC1) hG2 (by omega) (by omega) (fun hk => ⟨fun _ => ⟨(CK_sc hsc2 hC1).2.2.2.2.2.1.1, ?_⟩, fun w => absurd w (by decide)⟩) (fun hk => ⟨fun w => absurd rfl w, fun _ => ?_⟩)⟩
      · refine c_goThroughFirst (CK_sc hsc2 hC1) hG2 (hol_sub h8.2.1) (yv_lt hV hpl) hv.2.1.1 hk fun S3 c hsc3 hG3 hth hn => ?_
        have hC3 := CK_sc hsc3 (CK_sc hsc2 hC1)
        refine ⟨hC3.2.2.2.2.2.1.1, c_agreeing hC3 hG3 (hol_sub h8.2.1) (yv_lt hV hpl) (by omega) hn hth.1 ⟨hC3.2.2.2.2.2.1.1, ?_⟩⟩
        have hole : onc (yv q (q (98 + 3 * p) + s)) (q (97 + 3 * p)) (hol q (q (98 + 3 * p) + s) (q 94)) c ≤ (hol q (q (98 + 3 * p) + s) (q 94)).length := List.length_filter_le _ _
        have hdb : Dbt q p s ↔ ¬ (hol q (q (98 + 3 * p) + s) (q 94)).length ≤ onc (yv q (q (98 + 3 * p) + s)) (q (97 + 3 * p)) (hol q (q (98 + 3 * p) + s) (q 94)) c := by
          rw [onc_full]
          unfold Dbt
          refine not_congr (forall_congr' fun t => forall_congr' fun _ => ?_)
          rw [at29_cg (thrC_eq h8.2.1 hk hth)]
        have go : ∀ v2 : Int32, ((v2 = 1 ∧ ∀ s', s' < s + 1 → ¬ Dbt q p s') ∨ (v2 = 2 ∧ ∃ s', s' < s + 1 ∧ Dbt q p s')) → wp_X3_stateOf_53 (fun w0 w1 w2 => K (w0, w1, w2)) Q bo (nI p) (x + 43) v2 (nI s) S3 := by
          intro v2 hv2
          rintro _ rfl
          rw [nI_1]
          refine hK _ (qS q p - (s + 1)) (by omega) ⟨s + 1, v2, S3, by omega, rfl, rfl, Sc_tr hsc (Sc_tr hsc2 hsc3), fun s' hs' => ?_, hv2⟩
          by_cases e : s' = s
          · subst e
            exact hk
          · exact hen s' (by omega)
        rw [hG3.1, nI_leI (by omega) (by omega)]
        refine ⟨fun he => go v ?_, fun he => go 2 (Or.inr ⟨rfl, s, by omega, hdb.mpr he⟩)⟩
        rcases hv01 with ⟨rfl, hn2⟩ | ⟨rfl, s', hs', hd⟩
        · refine Or.inl ⟨rfl, fun s' hs' => ?_⟩
          by_cases e : s' = s
          · subst e
            exact fun w => hdb.mp w he
          · exact hn2 s' (by omega)
        · exact Or.inr ⟨rfl, s', by omega, hd⟩
      · have hfw : fwS q p 8 (qS q p) < q (97 + 3 * p) := by
          apply Nat.lt_of_not_le
          intro w
          exact hk (((fw_iff (qS q p)).mp w).2 s (by omega))
        have hQ := h S2 (Sc_tr hsc hsc2)
        unfold stS at hQ
        rw [if_pos hfw] at hQ
        exact hQ
theorem C_inState {st : Nat} {Q : Int32 → Hp → Prop} (hC : CK S x) (hbo : x + 111 ≤ bo ∨ bo = x + 49) (hB : BoxAt S wd (x + 111) bo q) (hV : V q) (hst : st ≤ 2) (h : ∀ S', Sc x S S' → Q (nI (inS q st (q 93))) S') : wp_X3_partsInState bo (nI st) (x + 43) S Q := by
  have h8 := hV.2.2.2.2.1
  refine Lp_of (fun n z => ∃ p S', p ≤ q 93 ∧ n = q 93 - p ∧ z = (nI (inS q st p), nI p, S') ∧ Sc x S S') (fun n z hz K hK => ?_) (n := q 93) (x := (nI 0, nI 0, S)) ⟨0, S, by omega, rfl, rfl, Sc_rf x S⟩
  obtain ⟨p, S1, hp, rfl, rfl, hsc⟩ := hz
  have hC1 := CK_sc hsc hC
  have hB1 := BoxAt_sc hsc hbo hB
  have g1 := hB1.2.1.1
  refine ⟨g1, fun hc => ?_, fun hc => ⟨g1, ?_⟩⟩
  · dsimp only at hc ⊢
    rw [hB1.2.1.2.1, nI_leI (by omega) (by omega)] at hc
    obtain rfl : p = q 93 := by omega
    exact h S1 hsc
  · dsimp only at hc ⊢
    rw [hB1.2.1.2.1, nI_leI (by omega) (by omega)] at hc
    refine C_stateOf hC1 hbo hB1 hV (by omega) fun S2 hsc2 => ?_
    have hs2 := stS_le q p
    refine ⟨fun he => ?_, fun he => ?_⟩
    · rw [nI_ne (by omega) (by omega)] at he
      rintro _ rfl
      rw [nI_1]
      refine hK _ (q 93 - (p + 1)) (by omega) ⟨p + 1, S2, by omega, rfl, ?_, Sc_tr hsc hsc2⟩
      rw [inS, if_neg he]
      rfl
    · rw [nI_eq (by omega) (by omega)] at he
      rintro _ rfl _ rfl
      rw [nI_1, nI_1]
      refine hK _ (q 93 - (p + 1)) (by omega) ⟨p + 1, S2, by omega, rfl, ?_, Sc_tr hsc hsc2⟩
      rw [inS, if_pos he]
theorem c_holdersAt {i : Nat} {Q : Int32 → Prop} (hB : BoxAt S wd (x + 111) bo q) (hV : V q) (hi : i < 2 ^ 20) (h : Q (nI (hol q i (q 94)).length)) : wp_X3_holdersAt bo (nI i) S Q := by
  have h8 := hV.2.2.2.2.1
  obtain ⟨g0, ⟨g1, g2, g3, g4⟩, g5, g6, ⟨g7, g7', g7''⟩, g8, g9⟩ := id hB
  refine Lp_for (fun t => (nI (hol q i t).length, nI t)) (q 94) (fun t ht K hK => ?_) (fun K => ?_) (i := 0) (by omega)
  · obtain ⟨⟨b1, b2, b3, b4, b5⟩, b6, b7, b8⟩ := g9 t ht
    have hvt := hV.2.2.2.2.2.2.1 t (by omega)
    refine ⟨g1, fun hc => ?_, fun _ => ⟨g1, _, g7, g7', by rw [g7'']; exact vp_li ht (by omega), _, by rw [nI_clamp (by omega)]; exact b1, b2, c_holds b2 b6 b7 (by omega) (by omega) (fun j hj hx hz0 => ⟨fun w => absurd w (by decide), fun _ => ?_⟩) (fun hn => ⟨fun _ => ?_, fun w => absurd rfl w⟩)⟩⟩
    · dsimp only at hc
      rw [g3, nI_leI (by omega) (by omega)] at hc
      omega
    · obtain rfl : i = j := nI_inj (by omega) (by omega) hx
      rintro _ rfl _ rfl
      dsimp only
      rw [nI_1, nI_1]
      rw [hol_s, if_pos ⟨hz0, hj⟩, List.length_append] at hK
      exact hK
    · rintro _ rfl
      dsimp only
      rw [nI_1]
      rw [hol_s, if_neg (fun w => hn ⟨w.1, (vp_nI (by omega)).mpr w.2⟩), List.append_nil] at hK
      exact hK
  · refine ⟨g1, fun _ => h, fun hc => ?_⟩
    rw [g3] at hc
    exact absurd (nI_le (Nat.le_refl _) (by omega)) hc
theorem fw_base {p : Nat} (hs : ∀ s, (hol q (q (98 + 3 * p) + s) (q 94)).length ≤ q 94) (h8 : q 94 ≤ 8) : ∀ s, 1 ≤ s → fwS q p (q 94) s = fwS q p 8 s
  | s + 1, _ => by
    unfold fwS
    rcases Nat.eq_zero_or_pos s with e | e
    · subst e
      have := hs 0
      show min (q 94) _ = min 8 _
      omega
    · rw [fw_base hs h8 s e]
theorem C_fewest {p : Nat} {Q : Int32 → Prop} (hB : BoxAt S wd (x + 111) bo q) (hV : V q) (hp : p < q 93) (h : Q (nI (fwS q p 8 (qS q p)))) : wp_X3_fewestHolders bo (nI p) S Q := by
  have h8 := hV.2.2.2.2.1
  have hv := hV.2.2.2.2.2.1 p hp
  have hqs := qS_le hV hp
  obtain ⟨g0, ⟨g1, g2, g3, g4⟩, g5, g6, ⟨g7, g7', g7''⟩, g8, g9⟩ := id hB
  have hq1 : 1 ≤ qS q p := by
    have := dv_lt (i := 0) hv.2.1.1 (by omega : 0 < q (96 + 3 * p))
    rw [Nat.zero_div] at this
    exact this
  rw [← fw_base (fun s => hol_le q _ _) h8.2.1 _ hq1] at h
  refine ⟨g1, ?_⟩
  rw [g3]
  rintro _ rfl
  refine Lp_for (fun s => (nI (fwS q p (q 94) s), nI s)) (qS q p) (fun s hs K hK => ?_) (fun K => ?_) (i := 0) (Nat.zero_le _)
  · have hpl := pl_lt hV hp hs
    have hl := hol_le q (q (98 + 3 * p) + s) (q 94)
    have hfm := fwS_m (q := q) (p := p) (m := q 94) s
    obtain ⟨⟨a, a1, a2, a3, a4, wo, a5, a6⟩, a7⟩ := g8 p hp
    refine ⟨g1, _, g5.1, g5.2.1, by rw [g5.2.2]; exact vp_li (by omega) (by omega), a, by rw [nI_clamp (by omega)]; exact a1, a3, c_stripesQ hV hp a3 a6 a4 ?_⟩
    · dsimp only
      refine ⟨fun hc => ?_, fun _ => ⟨g1, _, g6.1, g6.2.1, by rw [g6.2.2]; exact vp_li (by omega) (by omega), g1, ?_⟩⟩
      · rw [nI_leI (by omega) (by omega)] at hc
        omega
      · rw [nI_clamp (by omega), (g8 p hp).2, nI_add]
        refine c_holdersAt hB hV (by omega) (j_min (by omega) (by omega) ?_)
        rintro _ rfl
        rw [nI_1]
        exact hK
  · obtain ⟨⟨a, a1, a2, a3, a4, wo, a5, a6⟩, a7⟩ := g8 p hp
    refine ⟨g1, _, g5.1, g5.2.1, by rw [g5.2.2]; exact vp_li (by omega) (by omega), a, by rw [nI_clamp (by omega)]; exact a1, a3, c_stripesQ hV hp a3 a6 a4 ?_⟩
    · dsimp only
      exact ⟨fun _ => h, fun hc => absurd (nI_le (Nat.le_refl _) (by omega)) hc⟩
theorem C_opening {p : Nat} {Q : Int32 → Prop} (hB : BoxAt S wd (x + 111) bo q) (hV : V q) (hp : p < q 93) (h : Q (nI (ogS (q (97 + 3 * p)) (2 ^ q 94)))) : wp_X3_openingSets bo (nI p) S Q := by
  have h8 := hV.2.2.2.2.1
  have hv := hV.2.2.2.2.2.1 p hp
  have hpow : 2 ^ q 94 ≤ 2 ^ 8 := Nat.pow_le_pow_right (by omega) h8.2.1
  obtain ⟨g0, ⟨g1, g2, g3, g4⟩, g5, g6, ⟨g7, g7', g7''⟩, g8, g9⟩ := id hB
  obtain ⟨⟨a, a1, a2, a3, a4, w, a5, a6⟩, a7⟩ := g8 p hp
  refine Lp_for (fun s => (nI (ogS (q (97 + 3 * p)) s), nI s)) (2 ^ q 94) (fun s hs K hK => ?_) (fun K => ?_) (i := 0) (Nat.zero_le _)
  · have ho := onesS_le s 8
    refine ⟨g1, fun hc => ?_, fun _ => j_bc (by omega) ⟨g1, _, g5.1, g5.2.1, by rw [g5.2.2]; exact vp_li (by omega) (by omega), a, by rw [nI_clamp (by omega)]; exact a1, a3, fun hc => ?_, fun hc => ?_⟩⟩
    · dsimp only at hc
      rw [g3, shl_nI (by omega), nI_leI (by omega) (by omega)] at hc
      omega
    · rw [a4, nI_ltI (by omega) (by omega)] at hc
      rintro _ rfl
      dsimp only
      rw [nI_1]
      rw [ogS, if_neg (by omega), Nat.add_zero] at hK
      exact hK
    · rw [a4, nI_ltI (by omega) (by omega)] at hc
      rintro _ rfl _ rfl
      dsimp only
      rw [nI_1, nI_1]
      rw [ogS, if_pos (by omega)] at hK
      exact hK
  · refine ⟨g1, fun _ => h, fun hc => ?_⟩
    rw [g3, shl_nI (by omega)] at hc
    exact absurd (nI_le (Nat.le_refl _) (by omega)) hc
theorem C_packed {Q : Int32 → Hp → Prop} {p w : Int32} (hS : CS S x σ) (hV : V σ.1) (h : ∀ S', CS S' x σ → KO x S S' → Q (oPacked σ.1 p w) S') : wp_X11_packed x p w S Q := by
  obtain ⟨hC, hz, ht, h01, bo, nx, wd, ⟨hb, hbo⟩, -, -, hL, hB, -⟩ := id hS
  obtain ⟨⟨f0, f1, f2, f3, f4, f5, f6⟩, -⟩ := id hC
  have h8 := hV.2.2.2.2.1
  have h0 : Q (oPacked σ.1 p w) S := h S hS (KO_rf x S)
  unfold oPacked at h h0
  obtain ⟨g0, ⟨g1, g2, g3, g4⟩, g5, g6, ⟨g7, g7', g7''⟩, g8, g9⟩ := id hB
  refine ⟨f0, _, hb, g1, c_hasPart g1 g2 (by omega) (fun j hj hp => ⟨fun _ => ?_, fun w => absurd w (by decide)⟩) (fun hn => ⟨fun w => absurd rfl w, fun _ => ?_⟩)⟩
  · subst hp
    rw [if_pos ((okN_nI (by omega)).mpr hj), tn_nI (by omega)] at h h0
    obtain ⟨⟨a, a1, a2, a3, a4, wo, a5, a6⟩, a7⟩ := g8 j hj
    refine ⟨fun e0 => ⟨f0, f0, _, f6, _, hb, g1, C_stateOf hC hbo hB hV hj fun S' hsc => ?_⟩, fun e0 => ⟨fun e1 => ⟨f0, _, hb, g1, _, g5.1, g5.2.1, by rw [g5.2.2]; exact vp_li (by omega) (by omega), a, by rw [nI_clamp (by omega)]; exact a1, a3, ?_⟩, fun e1 => ⟨fun e2 => ⟨f0, _, hb, g1, _, g5.1, g5.2.1, by rw [g5.2.2]; exact vp_li (by omega) (by omega), a, by rw [nI_clamp (by omega)]; exact a1, a3, _, a6.1, a6.2.1, ?_⟩, fun e2 => ⟨fun e3 => ⟨f0, _, hb, g1, _, g6.1, g6.2.1, by rw [g6.2.2]; exact vp_li (by omega) (by omega), ?_⟩, fun e3 => ⟨fun e4 => ⟨f0, _, hb, g1, C_fewest hB hV hj ?_⟩, fun e4 => ⟨fun e5 => ⟨f0, _, hb, g1, C_opening hB hV hj ?_⟩, fun e5 => ?_⟩⟩⟩⟩⟩⟩
    · rw [if_pos e0] at h
      exact h S' (CS_sc hsc hS) (Sc_KO hsc)
    · rw [if_neg e0, if_pos e1] at h0
      rw [a4]
      exact h0
    · rw [if_neg e0, if_neg e1, if_pos e2] at h0
      rw [a6.2.2]
      exact h0
    · rw [if_neg e0, if_neg e1, if_neg e2, if_pos e3] at h0
      rw [nI_clamp (by omega), a7]
      exact h0
    · rw [if_neg e0, if_neg e1, if_neg e2, if_neg e3, if_pos e4] at h0
      exact h0
    · rw [if_neg e0, if_neg e1, if_neg e2, if_neg e3, if_neg e4, if_pos e5] at h0
      exact h0
    · rw [if_neg e0, if_neg e1, if_neg e2, if_neg e3, if_neg e4, if_neg e5] at h0
      exact h0
  · rw [if_neg (fun w => hn (okN_vp.mpr w))] at h0
    exact h0
theorem c_stripeOf {a k i : Nat} {Q : Int32 → Prop} (h6 : kd S a = 6) (hk : gI S 82 a 0 = nI k) (h1 : 1 ≤ k) (h8 : k ≤ 8) (hi : i < 2 ^ 20) (h : Q (nI (i / k))) : wp_X5_stripeOf a (nI i) S Q := by
  refine ⟨h6, fun _ => ⟨h6, by rw [hk]; exact nI_ne0 h1 (by omega), ?_⟩, fun hc => ?_⟩
  · rw [hk, pk_div (by omega) h1 (by omega)]
    exact h
  · rw [hk] at hc
    exact absurd (nI_le (a := 1) h1 (by omega)) hc
theorem c_placeIn {a k i : Nat} {Q : Int32 → Prop} (h6 : kd S a = 6) (hk : gI S 82 a 0 = nI k) (h1 : 1 ≤ k) (h8 : k ≤ 8) (hi : i < 2 ^ 20) (h : Q (nI (i % k))) : wp_X5_placeInStripe a (nI i) S Q := by
  refine ⟨h6, fun _ => ⟨h6, by rw [hk]; exact nI_ne0 h1 (by omega), ?_⟩, fun hc => ?_⟩
  · rw [hk, pk_rem (by omega) h1 (by omega)]
    exact h
  · rw [hk] at hc
    exact absurd (nI_le (a := 1) h1 (by omega)) hc
theorem c_coef {H : List Nat} {y : Nat → Nat} {k j : Nat} {c : Nat → Nat} {Q : Int32 → Prop} (hC : CK S x) (hG : CvG S (x + 43) H y k) (hk : k ≤ 8) (hj : j < k) (hn : ∀ j, j < k → gI S 0 (x + 48) j = nI (c j)) (h : Q (nI (c j))) : wp_X1_coefficient (x + 43) (nI j) S Q := by
  obtain ⟨-, -, -, -, -, ⟨c1, c2, c3, c4, c5, c6⟩, -⟩ := id hC
  refine ⟨c1, ?_⟩
  rw [hG.2.1]
  refine c_withinN (by omega) (fun i hi hx => ⟨fun w => absurd w (by decide), fun _ => ⟨c1, _, c6.1, c6.2.1, by rw [c6.2.2]; exact vp_li (by omega) (by omega), ?_⟩⟩) (fun hno => absurd ((vp_nI (by omega)).mpr hj) hno)
  rw [nI_clamp (by omega), hn j hj]
  exact h
theorem C_read {Q : Int32 → Hp → Prop} {p w : Int32} (hS : CS S x σ) (hV : V σ.1) (h : ∀ S', CS S' x σ → KO x S S' → Q (oRead σ.1 p w) S') : wp_X11_read x p w S Q := by
  obtain ⟨hC, hz, ht, h01, bo, nx, wd, ⟨hb, hbo⟩, -, -, hL, hB, -⟩ := id hS
  obtain ⟨⟨f0, f1, f2, f3, f4, f5, f6⟩, -⟩ := id hC
  have h8 := hV.2.2.2.2.1
  have h0 : Q (oRead σ.1 p w) S := h S hS (KO_rf x S)
  unfold oRead at h h0
  obtain ⟨g0, ⟨g1, g2, g3, g4⟩, g5, g6, ⟨g7, g7', g7''⟩, g8, g9⟩ := id hB
  refine ⟨f0, _, hb, g1, c_hasPart g1 g2 (by omega) (fun j hj hp => ⟨fun w => absurd w (by decide), fun _ => ?_⟩) (fun hn => ⟨fun _ => ?_, fun w => absurd rfl w⟩)⟩
  · subst hp
    rw [tn_nI (by omega)] at h h0
    obtain ⟨⟨a, a1, a2, a3, a4, wo, a5, a6⟩, a7⟩ := g8 j hj
    have hv := hV.2.2.2.2.2.1 j hj
    refine ⟨f0, _, hb, g1, _, g5.1, g5.2.1, by rw [g5.2.2]; exact vp_li (by omega) (by omega), a, by rw [nI_clamp (by omega)]; exact a1, a3, c_hasLetter a3 a6 hv.1.2 (fun i hi hx => ⟨fun _ => ?_, fun w => absurd w (by decide)⟩) (fun hn => ⟨fun w => absurd rfl w, fun _ => ?_⟩)⟩
    · subst hx
      rw [if_pos ⟨(okN_nI (by omega)).mpr hj, (okN_nI (by omega)).mpr hi⟩, tn_nI (by omega)] at h h0
      have hd := dv_lt hv.2.1.1 hi
      have hpl := pl_lt hV hj hd
      have hrm : i % σ.1 (97 + 3 * j) < σ.1 (97 + 3 * j) := Nat.mod_lt _ hv.2.1.1
      have hl := hol_le σ.1 (σ.1 (98 + 3 * j) + i / σ.1 (97 + 3 * j)) (σ.1 94)
      refine ⟨f0, f0, _, hb, g1, _, g5.1, g5.2.1, by rw [g5.2.2]; exact vp_li (by omega) (by omega), a, by rw [nI_clamp (by omega)]; exact a1, a3, c_stripeOf a3 a4 hv.2.1.1 (by omega) (by omega) ⟨f0, _, f6, g1, c_gather hC hB hV hj hd fun S2 hsc2 hG2 => ?_⟩⟩
      have hC2 := CK_sc hsc2 hC
      refine ⟨hC2.1.1, _, hC2.1.2.2.2.2.2.2, hC2.2.2.2.2.2.1.1, c_hasEnough hC2 hG2 (by omega) (by omega) (fun hk => ⟨fun _ => ⟨hC2.1.1, _, hC2.1.2.2.2.2.2.2, hC2.2.2.2.2.2.1.1, c_goThroughFirst hC2 hG2 (hol_sub h8.2.1) (yv_lt hV hpl) hv.2.1.1 hk fun S3 c hsc3 hG3 hth hn => ?_⟩, fun w => absurd w (by decide)⟩) (fun hk => ⟨fun w => absurd rfl w, fun _ => ?_⟩)⟩
      · rw [if_pos hk] at h
        have hsc := Sc_tr hsc2 hsc3
        have hC3 := CK_sc hsc hC
        have hS3 := CS_sc hsc hS
        have hB3 := BoxAt_sc hsc hbo hB
        obtain ⟨-, ⟨e1, -⟩, e5, -, -, e8, -⟩ := id hB3
        obtain ⟨⟨b, b1, b2, b3, b4, -⟩, -⟩ := e8 j hj
        refine ⟨hC3.1.1, hC3.1.1, bo, (hsc.2.2.1 _ _ _).trans hb, e1, _, e5.1, e5.2.1, by rw [e5.2.2]; exact vp_li (by omega) (by omega), b, by rw [nI_clamp (by omega)]; exact b1, b3, _, hC3.1.2.2.2.2.2.2, c_placeIn b3 b4 hv.2.1.1 (by omega) (by omega) ⟨hC3.2.2.2.2.2.1.1, c_coef hC3 hG3 (by omega) hrm hn ?_⟩⟩
        rw [thrC_eq h8.2.1 hk hth _ hrm]
        exact h S3 hS3 (Sc_KO hsc)
      · rw [if_neg hk] at h
        exact h S2 (CS_sc hsc2 hS) (Sc_KO hsc2)
    · rw [if_neg (fun w => hn (okN_vp.mpr w.2))] at h0
      exact h0
  · rw [if_neg (fun w => hn (okN_vp.mpr w.1))] at h0
    exact h0
theorem C_mended {Q : Int32 → Hp → Prop} {p w : Int32} (hS : CS S x σ) (hV : V σ.1) (h : ∀ S', CS S' x σ → KO x S S' → Q (oMended σ.1 p w) S') : wp_X11_mended x p w S Q := by
  obtain ⟨hC, hz, ht, h01, bo, nx, wd, ⟨hb, hbo⟩, -, -, hL, hB, -⟩ := id hS
  obtain ⟨⟨f0, f1, f2, f3, f4, f5, f6⟩, -⟩ := id hC
  have h8 := hV.2.2.2.2.1
  have h0 : Q (oMended σ.1 p w) S := h S hS (KO_rf x S)
  unfold oMended at h h0
  obtain ⟨g0, ⟨g1, g2, g3, g4⟩, g5, g6, ⟨g7, g7', g7''⟩, g8, g9⟩ := id hB
  refine ⟨f0, _, hb, g1, c_hasPart g1 g2 (by omega) (fun j hj hp => ⟨fun w => absurd w (by decide), fun _ => ?_⟩) (fun hn => ⟨fun _ => ?_, fun w => absurd rfl w⟩)⟩
  · subst hp
    rw [tn_nI (by omega)] at h h0
    obtain ⟨⟨a, a1, a2, a3, a4, wo, a5, a6⟩, a7⟩ := g8 j hj
    have hv := hV.2.2.2.2.2.1 j hj
    refine ⟨f0, _, hb, g1, _, g5.1, g5.2.1, by rw [g5.2.2]; exact vp_li (by omega) (by omega), a, by rw [nI_clamp (by omega)]; exact a1, a3, c_hasLetter a3 a6 hv.1.2 (fun i hi hx => ⟨fun _ => ?_, fun w => absurd w (by decide)⟩) (fun hn => ⟨fun w => absurd rfl w, fun _ => ?_⟩)⟩
    · subst hx
      rw [if_pos ⟨(okN_nI (by omega)).mpr hj, (okN_nI (by omega)).mpr hi⟩, tn_nI (by omega)] at h h0
      have hd := dv_lt hv.2.1.1 hi
      have hpl := pl_lt hV hj hd
      have hrm : i % σ.1 (97 + 3 * j) < σ.1 (97 + 3 * j) := Nat.mod_lt _ hv.2.1.1
      have hl := hol_le σ.1 (σ.1 (98 + 3 * j) + i / σ.1 (97 + 3 * j)) (σ.1 94)
      refine ⟨f0, f0, _, hb, g1, _, g5.1, g5.2.1, by rw [g5.2.2]; exact vp_li (by omega) (by omega), a, by rw [nI_clamp (by omega)]; exact a1, a3, c_stripeOf a3 a4 hv.2.1.1 (by omega) (by omega) ⟨f0, _, f6, g1, c_gather hC hB hV hj hd fun S2 hsc2 hG2 => ?_⟩⟩
      have hC2 := CK_sc hsc2 hC
      refine ⟨hC2.1.1, _, hC2.1.2.2.2.2.2.2, hC2.2.2.2.2.2.1.1, c_hasEnough hC2 hG2 (by omega) (by omega) (fun hk => ⟨fun _ => ⟨hC2.1.1, _, hC2.1.2.2.2.2.2.2, hC2.2.2.2.2.2.1.1, c_mend hC2 hG2 (hol_sub h8.2.1) (yv_lt hV hpl) hv.2.1.1 hk (fun S3 c hsc3 hG3 hcm hn => ⟨fun w => absurd w (by decide), fun _ => ?_⟩) (fun S3 hsc3 hno => ⟨fun _ => ?_, fun w => absurd rfl w⟩)⟩, fun w => absurd w (by decide)⟩) (fun hk => ⟨fun w => absurd rfl w, fun _ => ?_⟩)⟩
      · rw [if_pos hk, cI_pos (P := Mdd _ _ _) ⟨c, hcm⟩] at h
        have hsc := Sc_tr hsc2 hsc3
        have hC3 := CK_sc hsc hC
        have hS3 := CS_sc hsc hS
        have hB3 := BoxAt_sc hsc hbo hB
        obtain ⟨-, ⟨e1, -⟩, e5, -, -, e8, -⟩ := id hB3
        obtain ⟨⟨b, b1, b2, b3, b4, -⟩, -⟩ := e8 j hj
        refine ⟨hC3.1.1, hC3.1.1, bo, (hsc.2.2.1 _ _ _).trans hb, e1, _, e5.1, e5.2.1, by rw [e5.2.2]; exact vp_li (by omega) (by omega), b, by rw [nI_clamp (by omega)]; exact b1, b3, _, hC3.1.2.2.2.2.2.2, c_placeIn b3 b4 hv.2.1.1 (by omega) (by omega) ⟨hC3.2.2.2.2.2.1.1, c_coef hC3 hG3 (by omega) hrm hn ?_⟩⟩
        rw [mndC_eq h8.2.1 hk hcm _ hrm]
        exact h S3 hS3 (Sc_KO hsc)
      · rw [if_pos hk, cI_neg (P := Mdd _ _ _) hno] at h
        have hsc := Sc_tr hsc2 hsc3
        exact h S3 (CS_sc hsc hS) (Sc_KO hsc)
      · rw [if_neg hk] at h
        exact h S2 (CS_sc hsc2 hS) (Sc_KO hsc2)
    · rw [if_neg (fun w => hn (okN_vp.mpr w.2))] at h0
      exact h0
  · rw [if_neg (fun w => hn (okN_vp.mpr w.1))] at h0
    exact h0
end CBOX
