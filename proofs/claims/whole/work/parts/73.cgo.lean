theorem map_range (H : List Nat) : (List.range H.length).map (fun j => H.getD j 0) = H := by
  apply List.ext_getElem
  · rw [List.length_map, List.length_range]
  · intro i h1 h2
    rw [List.getElem_map, List.getElem_range, getD_at h2]
theorem map_take {H : List Nat} {n : Nat} (hn : n ≤ H.length) : (List.range n).map (fun j => H.getD j 0) = H.take n := by
  apply List.ext_getElem
  · rw [List.length_map, List.length_range, List.length_take]
    omega
  · intro i h1 h2
    rw [List.length_map, List.length_range] at h1
    rw [List.getElem_map, List.getElem_range, getD_at (by omega), List.getElem_take]
theorem pts_app (m i : Nat) : ∀ d, ∃ R, pts m (i + d) = pts m i ++ R
  | 0 => ⟨[], by rw [Nat.add_zero, List.append_nil]⟩
  | d + 1 => by
    obtain ⟨R, h⟩ := pts_app m i d
    refine ⟨R ++ [i + d].filter (fun t => decide (m / 2 ^ t % 2 = 1)), ?_⟩
    rw [← List.append_assoc, ← h]
    unfold pts
    rw [← Nat.add_assoc, List.range_succ, List.filter_append]
theorem pts_full {m i : Nat} (hi : i ≤ 8) (h : onesS m i = onesS m 8) : pts m 8 = pts m i := by
  obtain ⟨R, hR⟩ := pts_app m i (8 - i)
  rw [show i + (8 - i) = 8 by omega] at hR
  have hl := congrArg List.length hR
  rw [List.length_append, pts_len, pts_len, ← h] at hl
  have : R = [] := List.eq_nil_of_length_eq_zero (by omega)
  rw [this, List.append_nil] at hR
  exact hR
theorem pts_low {m n : Nat} (hn : n ≤ 8) (h : ∀ t, t < 8 → m / 2 ^ t % 2 = 1 → t < n) : pts m 8 = pts m n := by
  have h1 := flt_lt (fun t => m / 2 ^ t % 2 = 1) n (8 - n)
  rw [show n + (8 - n) = 8 by omega] at h1
  unfold pts
  rw [← h1]
  apply List.filter_congr
  intro t ht
  rw [List.mem_range] at ht
  by_cases hb : m / 2 ^ t % 2 = 1
  · have := h t ht hb
    simp [hb, this]
  · simp [hb]
theorem pts_s (m i : Nat) : pts m (i + 1) = pts m i ++ (if m / 2 ^ i % 2 = 1 then [i] else []) := by
  unfold pts
  rw [List.range_succ, List.filter_append]
  by_cases h : m / 2 ^ i % 2 = 1
  · simp [h]
  · simp [h]
def bcF (x0 : Int32) : Int32 :=
  let e1 := (x0 - (((x0).toUInt32 >>> (((1 : Int32)).toUInt32 &&& Int32.toUInt32 31)).toInt32 &&& (1431655765 : Int32)))
  let e2 := ((e1 &&& (858993459 : Int32)) + (((e1).toUInt32 >>> (((2 : Int32)).toUInt32 &&& Int32.toUInt32 31)).toInt32 &&& (858993459 : Int32)))
  let e3 := ((e2 + ((e2).toUInt32 >>> (((4 : Int32)).toUInt32 &&& Int32.toUInt32 31)).toInt32) &&& (252645135 : Int32))
  let e4 := (e3 + ((e3).toUInt32 >>> (((8 : Int32)).toUInt32 &&& Int32.toUInt32 31)).toInt32)
  let e5 := (e4 + ((e4).toUInt32 >>> (((16 : Int32)).toUInt32 &&& Int32.toUInt32 31)).toInt32)
  (e5 &&& (63 : Int32))
theorem bc_ok : ∀ n, n < 256 → bcF (nI n) = nI (onesS n 8) := by decide +kernel
theorem j_bc {n : Nat} {S : Hp} {Q : Int32 → Prop} (hn : n < 256) (h : Q (nI (onesS n 8))) : wp_J6_bitCount_0f7a4 (nI n) S Q := by
  rw [← bc_ok n hn] at h
  rintro _ rfl _ rfl _ rfl _ rfl _ rfl
  exact h
theorem low_ok : ∀ k, k < 9 → pts (2 ^ k - 1) 8 = List.range k ∧ onesS (2 ^ k - 1) 8 = k := by decide +kernel
theorem min_ok : ∀ m, m < 256 → 2 ^ onesS m 8 - 1 ≤ m := by decide +kernel
section CGO
variable {S : Hp} {x : Nat} {σ : Sg} {q : Nat → Nat} {H : List Nat} {y : Nat → Nat} {k : Nat}
theorem c_goThrough {m : Nat} {Q : Hp → Prop} (hC : CK S x) (hG : CvG S (x + 43) H y k) (hH : List.Sublist H (List.range 8)) (hy : ∀ t, t < 8 → y t < 29) (hk1 : 1 ≤ k) (hm : m < 256) (hmH : ∀ t, t < 8 → m / 2 ^ t % 2 = 1 → t < H.length) (hmk : onesS m 8 = k) (h : ∀ S' c, Sc x S S' → CvG S' (x + 43) H y k → Thr y k ((pts m 8).map (fun j => H.getD j 0)) c → (∀ j, j < k → gI S' 0 (x + 48) j = nI (c j)) → Q S') : wp_X1_goThrough (x + 43) (nI m) S Q := by
  obtain ⟨-, -, -, -, -, ⟨c1, c2, c3, c4, c5, c6⟩, -⟩ := id hC
  have hk8 : k ≤ 8 := by
    rw [← hmk]
    exact onesS_le m 8
  have hHl : H.length ≤ 8 := by
    have := hH.length_le
    rw [List.length_range] at this
    exact this
  have hH8 : ∀ j, j < H.length → H.getD j 0 < 8 := fun j hj => by
    rw [getD_at hj]
    exact List.mem_range.mp (hH.subset (List.getElem_mem _))
  -- behind the loop
  have fin : ∀ S1, Sc x S S1 → CvG S1 (x + 43) H y k → (∀ j, j < k → gI S1 0 (x + 46) j = nI (((pts m 8).map (fun j => H.getD j 0)).getD j 0 + 1) ∧ gI S1 0 (x + 47) j = nI (y (((pts m 8).map (fun j => H.getD j 0)).getD j 0))) → wp_X1_goThrough_62 Q (x + 43) S1 := by
    intro S1 hsc hG1 hT
    generalize hTe : (pts m 8).map (fun j => H.getD j 0) = T at hT h
    have hTs : List.Sublist T H := by
      rw [← hTe, pts_low hHl hmH]
      have h1 : List.Sublist (pts m H.length) (List.range H.length) := List.filter_sublist
      have h2 := h1.map (fun j => H.getD j 0)
      rw [map_range] at h2
      exact h2
    have hTs8 := hTs.trans hH
    have hTl : T.length = k := by rw [← hTe, List.length_map, pts_len, hmk]
    have hTn : T.Nodup := List.Pairwise.sublist hTs8 List.nodup_range
    have hT8 : ∀ t, t ∈ T → t < 8 := fun t ht => List.mem_range.mp (hTs8.subset ht)
    have hTD : ∀ i, i < k → T.getD i 0 < 8 := fun i hi => hT8 _ (by rw [getD_at (by omega)]; exact List.getElem_mem _)
    obtain ⟨c, hc, hc0⟩ := thr_ex hy hTs8
    rw [hTl] at hc hc0
    have he : S8 (fun j => (c j : Int)) k := fun j hj => by
      dsimp only
      rw [hc0 j hj]
      rfl
    have hC1 := CK_sc hsc hC
    refine ⟨hC1.2.2.2.2.2.1.1, c_dd (e := fun j => (c j : Int)) (T := T) hC1 hG1.2.1 hk1 hk8 hTl hTn hT8 (fun i hi => (hT i hi).1) (fun i hi => ?_) (S8_le he hk8) fun S2 hsc2 hun2 hs2 => ⟨(CK_sc hsc2 hC1).2.2.2.2.2.1.1, c_mo (e := fun j => (c j : Int)) (T := T) (CK_sc hsc2 hC1) ((hun2 _ _ _ (by omega)).trans hG1.2.1) hk1 hk8 hTD (fun i hi => (hun2 _ _ _ (by omega)).trans (hT i hi).1) hs2 he fun S3 hsc3 hun3 hs3 => ?_⟩⟩
    · have hmem : T.getD i 0 ∈ T := by
        rw [getD_at (by omega)]
        exact List.getElem_mem _
      have hyt := hc.2 _ hmem
      refine ⟨y (T.getD i 0), hy _ (hTD i hi), (hT i hi).2, ?_⟩
      have ha := at29_ev c k (T.getD i 0 + 1)
      rw [hyt] at ha
      unfold DD
      rw [Nat.sub_zero]
      show (29 : Int) ∣ _ - ev (fun j => (c j : Int)) 8 (Xp T i)
      rw [ev_S8 he hk8]
      have e1 : Xp T i = ((T.getD i 0 + 1 : Nat) : Int) := by
        unfold Xp
        omega
      rw [e1]
      exact ha
    · refine h S3 c (Sc_tr hsc (Sc_tr hsc2 hsc3)) ⟨(hun3 _ _ _ (by omega)).trans ((hun2 _ _ _ (by omega)).trans hG1.1), (hun3 _ _ _ (by omega)).trans ((hun2 _ _ _ (by omega)).trans hG1.2.1), fun j hj => ⟨(hun3 _ _ _ (by omega)).trans ((hun2 _ _ _ (by omega)).trans (hG1.2.2 j hj).1), (hun3 _ _ _ (by omega)).trans ((hun2 _ _ _ (by omega)).trans (hG1.2.2 j hj).2)⟩⟩ hc fun j hj => ?_
      obtain ⟨s, sl, sg, sd⟩ := hs3 j hj
      have := hc.1 j hj
      have : s = c j := by omega
      rw [sg, this]
  refine Lp_of (fun n z => ∃ i S', i ≤ H.length ∧ n = H.length - i ∧ z = (nI (onesS m i), nI i, S') ∧ Sc x S S' ∧ CvG S' (x + 43) H y k ∧ (∀ j, j < onesS m i → gI S' 0 (x + 46) j = nI (((pts m i).map (fun j => H.getD j 0)).getD j 0 + 1) ∧ gI S' 0 (x + 47) j = nI (y (((pts m i).map (fun j => H.getD j 0)).getD j 0)))) (fun n z hz K hK => ?_) (n := H.length) (x := (nI 0, nI 0, S)) ⟨0, S, by omega, rfl, rfl, Sc_rf x S, hG, fun j hj => absurd hj (Nat.not_lt_zero _)⟩
  obtain ⟨i, S1, hi, rfl, rfl, hsc, hG1, hT⟩ := hz
  obtain ⟨sk, ssz, sr, si⟩ := id hsc
  have hoi := onesS_le m i
  have hmono : onesS m i ≤ k := by
    obtain ⟨R, hR⟩ := pts_app m i (8 - i)
    rw [show i + (8 - i) = 8 by omega] at hR
    have hl := congrArg List.length hR
    rw [List.length_append, pts_len, pts_len, hmk] at hl
    omega
  refine ⟨((sk _).1).trans c1, fun hc => ?_, fun hc => ⟨((sk _).1).trans c1, fun hd => ?_, fun hd => ⟨fun hb => ?_, fun hb => ?_⟩⟩⟩
  · dsimp only at hc ⊢
    rw [hG1.1, nI_leI (by omega) (by omega)] at hc
    obtain rfl : i = H.length := by omega
    refine fin S1 hsc hG1 fun j hj => ?_
    have e1 := pts_low hHl hmH
    have e2 : onesS m H.length = k := by rw [← pts_len, ← e1, pts_len, hmk]
    rw [e1]
    exact hT j (by omega)
  · dsimp only at hd ⊢
    rw [hG1.2.1, nI_leI (by omega) (by omega)] at hd
    refine fin S1 hsc hG1 fun j hj => ?_
    rw [pts_full (i := i) (by omega) (by omega)]
    exact hT j (by omega)
  · dsimp only at hc hb ⊢
    rw [hG1.1, nI_leI (by omega) (by omega)] at hc
    rw [bit_nI (by omega) (by omega), li_1, nI_ne (by omega) (by omega)] at hb
    rintro _ rfl
    rw [nI_1]
    have e1 : pts m (i + 1) = pts m i := by rw [pts_s, if_neg hb, List.append_nil]
    have e2 : onesS m (i + 1) = onesS m i := by rw [← pts_len, e1, pts_len]
    refine hK _ (H.length - (i + 1)) (by omega) ⟨i + 1, S1, by omega, rfl, by rw [e2], hsc, hG1, ?_⟩
    rw [e1, e2]
    exact hT
  · dsimp only at hc hd hb ⊢
    rw [hG1.1, nI_leI (by omega) (by omega)] at hc
    rw [hG1.2.1, nI_leI (by omega) (by omega)] at hd
    rw [bit_nI (by omega) (by omega), li_1, nI_eq (by omega) (by omega)] at hb
    obtain ⟨v1, v2⟩ := hG1.2.2 i (by omega)
    rw [show x + 43 + 1 = x + 44 by omega] at v1
    rw [show x + 43 + 2 = x + 45 by omega] at v2
    refine ⟨((sk _).1).trans c1, ((sk _).1).trans c1, _, (sr _ _ _).trans c2.1, ((sk _).1).trans c2.2.1, by rw [(sk _).2, c2.2.2]; exact vp_li (by omega) (by omega), _, (sr _ _ _).trans c4.1, ((sk _).1).trans c4.2.1, by rw [(sk _).2, c4.2.2]; exact vp_li (by omega) (by omega), ?_⟩
    rintro _ rfl
    refine ⟨((sk _).1).trans c1, ((sk _).1).trans c1, _, (sr _ _ _).trans c3.1, ((sk _).1).trans c3.2.1, by rw [ln_sI, (sk _).2, c3.2.2]; exact vp_li (by omega) (by omega), _, (sr _ _ _).trans c5.1, ((sk _).1).trans c5.2.1, by rw [ln_sI, (sk _).2, c5.2.2]; exact vp_li (by omega) (by omega), ?_⟩
    rintro _ rfl _ rfl _ rfl
    rw [nI_clamp (by omega), nI_clamp (by omega), v1, gI_sI, if_neg (by omega), v2, nI_1, nI_1]
    have e1 : pts m (i + 1) = pts m i ++ [i] := by rw [pts_s, if_pos hb]
    have e2 : onesS m (i + 1) = onesS m i + 1 := by rw [onesS, hb]
    have hlen : ((pts m i).map (fun j => H.getD j 0)).length = onesS m i := by rw [List.length_map, pts_len]
    refine hK _ (H.length - (i + 1)) (by omega) ⟨i + 1, _, by omega, rfl, by rw [e2], Sc_tr hsc (Sc_tr (Sc_sI (by omega)) (Sc_sI (by omega))), ⟨?_, ?_, fun h hh => ⟨?_, ?_⟩⟩, fun j hj => ?_⟩
    · rw [gI_sI, if_neg (by omega), gI_sI, if_neg (by omega)]
      exact hG1.1
    · rw [gI_sI, if_neg (by omega), gI_sI, if_neg (by omega)]
      exact hG1.2.1
    · rw [gI_sI, if_neg (by omega), gI_sI, if_neg (by omega)]
      exact (hG1.2.2 h hh).1
    · rw [gI_sI, if_neg (by omega), gI_sI, if_neg (by omega)]
      exact (hG1.2.2 h hh).2
    · rw [e1, List.map_append, List.map_cons, List.map_nil]
      rw [e2] at hj
      by_cases ej : j = onesS m i
      · subst ej
        have := getD_app2 (L := (pts m i).map (fun j => H.getD j 0)) (p := H.getD i 0)
        rw [hlen] at this
        rw [this]
        refine ⟨?_, ?_⟩
        · rw [gI_sI, if_neg (by omega), gI_sI, if_pos ⟨rfl, rfl, rfl⟩]
        · rw [gI_sI, if_pos ⟨rfl, rfl, rfl⟩]
      · rw [getD_app1 (by omega)]
        refine ⟨?_, ?_⟩
        · rw [gI_sI, if_neg (by omega), gI_sI, if_neg (by omega)]
          exact (hT j (by omega)).1
        · rw [gI_sI, if_neg (by omega), gI_sI, if_neg (by omega)]
          exact (hT j (by omega)).2
theorem c_goThroughFirst {Q : Hp → Prop} (hC : CK S x) (hG : CvG S (x + 43) H y k) (hH : List.Sublist H (List.range 8)) (hy : ∀ t, t < 8 → y t < 29) (hk1 : 1 ≤ k) (hk : k ≤ H.length) (h : ∀ S' c, Sc x S S' → CvG S' (x + 43) H y k → Thr y k (H.take k) c → (∀ j, j < k → gI S' 0 (x + 48) j = nI (c j)) → Q S') : wp_X1_goThroughFirst (x + 43) S Q := by
  have hHl : H.length ≤ 8 := by
    have := hH.length_le
    rw [List.length_range] at this
    exact this
  obtain ⟨l1, l2⟩ := low_ok k (by omega)
  have hp : 2 ^ k ≤ 2 ^ 8 := Nat.pow_le_pow_right (by omega) (by omega)
  have hp1 : 1 ≤ 2 ^ k := Nat.one_le_two_pow
  refine ⟨hC.2.2.2.2.2.1.1, hC.2.2.2.2.2.1.1, ?_⟩
  rw [hG.2.1, shl_nI (by omega), li_1, pk_sub hp1]
  refine c_goThrough hC hG hH hy hk1 (by omega) (fun t ht hb => ?_) l2 fun S' c h1 h2 h3 h4 => h S' c h1 h2 ?_ h4
  · have : t ∈ pts (2 ^ k - 1) 8 := pts_mem.mpr ⟨ht, hb⟩
    rw [l1, List.mem_range] at this
    omega
  · rw [l1, map_take hk] at h3
    exact h3
theorem onc_s {L : List Nat} {a : Nat} {c : Nat → Nat} : onc y k (L ++ [a]) c = onc y k L c + (if at29 c k (a + 1) = y a then 1 else 0) := by
  unfold onc
  rw [List.filter_append, List.length_append]
  congr 1
  by_cases h : at29 c k (a + 1) = y a
  · rw [if_pos h]
    simp [h]
  · rw [if_neg h]
    simp [h]
theorem c_agreeing {c : Nat → Nat} {Q : Int32 → Prop} (hC : CK S x) (hG : CvG S (x + 43) H y k) (hH : List.Sublist H (List.range 8)) (hy : ∀ t, t < 8 → y t < 29) (hk8 : k ≤ 8) (hn : ∀ j, j < k → gI S 0 (x + 48) j = nI (c j)) (hc : ∀ j, j < k → c j < 29) (h : Q (nI (onc y k H c))) : wp_X1_agreeing (x + 43) S Q := by
  obtain ⟨-, -, -, -, -, ⟨c1, c2, c3, c4, c5, c6⟩, -⟩ := id hC
  have hHl : H.length ≤ 8 := by
    have := hH.length_le
    rw [List.length_range] at this
    exact this
  have hfin : H.take H.length = H := List.take_length
  refine Lp_for (fun i => (nI (onc y k (H.take i) c), nI i)) H.length (fun i hi K hK => ?_) (fun K => ?_) (i := 0) (Nat.zero_le _)
  · obtain ⟨v1, v2⟩ := hG.2.2 i hi
    rw [show x + 43 + 1 = x + 44 by omega] at v1
    rw [show x + 43 + 2 = x + 45 by omega] at v2
    have hmem : H.getD i 0 < 8 := by
      rw [getD_at hi]
      exact List.mem_range.mp (hH.subset (List.getElem_mem _))
    have hst : H.take (i + 1) = H.take i ++ [H.getD i 0] := by
      rw [getD_at hi]
      exact List.take_succ_eq_append_getElem hi
    refine ⟨c1, fun hc => ?_, fun _ => ⟨c1, c1, c1, _, c2.1, c2.2.1, by rw [c2.2.2]; exact vp_li (by omega) (by omega), _, c6.1, ?_⟩⟩
    · dsimp only at hc
      rw [hG.1, nI_leI (by omega) (by omega)] at hc
      omega
    · dsimp only
      rw [nI_clamp (by omega), v1, hG.2.1]
      have hyl := hy _ hmem
      have ha := at29_lt c k (H.getD i 0 + 1)
      refine c_valueAt (fr := 0) c6.2.1 c6.2.2 (by omega) (by omega) (by omega) (by omega) (fun j hj _ => by rw [Nat.zero_add]; exact hn j hj) (fun j hj w => absurd (by omega) w) hc ⟨c1, _, c3.1, c3.2.1, by rw [c3.2.2]; exact vp_li (by omega) (by omega), ?_⟩
      rw [v2, nI_ne (by omega) (by omega), nI_eq (by omega) (by omega)]
      refine ⟨fun he => ?_, fun he => ?_⟩
      · rintro _ rfl
        rw [nI_1]
        rw [hst, onc_s, if_neg he, Nat.add_zero] at hK
        exact hK
      · rintro _ rfl _ rfl
        rw [nI_1, nI_1]
        rw [hst, onc_s, if_pos he] at hK
        exact hK
  · refine ⟨c1, fun _ => ?_, fun hc => ?_⟩
    · dsimp only
      rw [hfin]
      exact h
    · rw [hG.1] at hc
      exact absurd (nI_le (Nat.le_refl _) (by omega)) hc
theorem onc_cg {c d : Nat → Nat} (e : ∀ j, j < k → c j = d j) : onc y k H c = onc y k H d := by
  unfold onc
  congr 1
  apply List.filter_congr
  intro t _
  rw [at29_cg e]
theorem c_mend {Q : Int32 → Hp → Prop} (hC : CK S x) (hG : CvG S (x + 43) H y k) (hH : List.Sublist H (List.range 8)) (hy : ∀ t, t < 8 → y t < 29) (hk1 : 1 ≤ k) (hk : k ≤ H.length) (h1 : ∀ S' c, Sc x S S' → CvG S' (x + 43) H y k → Mnd y k H c → (∀ j, j < k → gI S' 0 (x + 48) j = nI (c j)) → Q 1 S') (h0 : ∀ S', Sc x S S' → (¬ ∃ c, Mnd y k H c) → Q 0 S') : wp_X1_mend (x + 43) S Q := by
  obtain ⟨-, -, -, -, -, ⟨c1, c2, c3, c4, c5, c6⟩, -⟩ := id hC
  have hHl : H.length ≤ 8 := by
    have := hH.length_le
    rw [List.length_range] at this
    exact this
  have hHn : H.Nodup := List.Pairwise.sublist hH List.nodup_range
  have hH8 : ∀ t, t ∈ H → t < 8 := fun t ht => List.mem_range.mp (hH.subset ht)
  have hpk : 2 ^ k ≤ 2 ^ 8 := Nat.pow_le_pow_right (by omega) (by omega)
  have hp1 : 1 ≤ 2 ^ k := Nat.one_le_two_pow
  refine ⟨c1, c1, by decide, ?_⟩
  rw [hG.1, hG.2.1, pk_sub hk, li_2, pk_div (by omega) (by omega) (by omega)]
  rintro _ rfl
  refine ⟨c1, ?_⟩
  rw [shl_nI (by omega), li_1, pk_sub hp1]
  rintro _ rfl
  generalize hli : (H.length - k) / 2 = li
  have hN8 : 2 ^ (k + li) ≤ 2 ^ 8 := Nat.pow_le_pow_right (by omega) (by omega)
  have hkN : 2 ^ k ≤ 2 ^ (k + li) := Nat.pow_le_pow_right (by omega) (by omega)
  -- the packets of a set of points
  refine Lp_of (fun n z => ∃ s S', 2 ^ k - 1 ≤ s ∧ s ≤ 2 ^ (k + li) ∧ n = 2 ^ (k + li) - s ∧ z = (nI s, S') ∧ Sc x S S' ∧ CvG S' (x + 43) H y k ∧ ∀ s', 2 ^ k - 1 ≤ s' → s' < s → onesS s' 8 = k → ∀ c, Thr y k ((pts s' 8).map (fun j => H.getD j 0)) c → ¬ Mnd y k H c) (fun n z hz K hK => ?_) (n := 2 ^ (k + li) - (2 ^ k - 1)) (x := (nI (2 ^ k - 1), S)) ⟨2 ^ k - 1, S, Nat.le_refl _, by omega, rfl, rfl, Sc_rf x S, hG, fun s' h1 h2 => by omega⟩
  obtain ⟨s, S1, hs1, hs2, rfl, rfl, hsc, hG1, hno⟩ := hz
  obtain ⟨sk, ssz, sr, si⟩ := id hsc
  have again : ∀ S2, s < 2 ^ (k + li) → Sc x S S2 → CvG S2 (x + 43) H y k → (onesS s 8 = k → ∀ c, Thr y k ((pts s 8).map (fun j => H.getD j 0)) c → ¬ Mnd y k H c) → K (nI s + 1, S2) := by
    intro S2 hlt hsc2 hG2 hcur
    rw [nI_1]
    refine hK _ (2 ^ (k + li) - (s + 1)) (by omega) ⟨s + 1, S2, by omega, by omega, rfl, rfl, hsc2, hG2, fun s' a1 a2 => ?_⟩
    by_cases e : s' = s
    · subst e
      exact hcur
    · exact hno s' a1 (by omega)
  refine ⟨((sk _).1).trans c1, fun hc => ?_, fun hc => ?_⟩
  · dsimp only at hc ⊢
    rw [hG1.2.1, nI_add, shl_nI (by omega), nI_leI (by omega) (by omega)] at hc
    refine h0 S1 hsc ?_
    rintro ⟨c, hcm⟩
    -- those of the first points that lie on c
    generalize hom : mkS (fun j => decide (j < k + li) && decide (at29 c k (H.getD j 0 + 1) = y (H.getD j 0))) 8 = om
    have om8 : om < 256 := by
      rw [← hom]
      exact mkS_lt _ 8
    obtain ⟨-, f2, f3⟩ := fr_ok om om8 k (by omega)
    have hpo : pts om 8 = (List.range (k + li)).filter (fun j => decide (at29 c k (H.getD j 0 + 1) = y (H.getD j 0))) := by
      rw [← hom, mkS_pts]
      have := flt_lt (fun j => at29 c k (H.getD j 0 + 1) = y (H.getD j 0)) (k + li) (8 - (k + li))
      rw [show k + li + (8 - (k + li)) = 8 by omega] at this
      rw [← this]
      apply List.filter_congr
      intro t _
      by_cases a : t < k + li <;> by_cases b : at29 c k (H.getD t 0 + 1) = y (H.getD t 0) <;> simp [a, b]
    have hlen : (pts om 8).length = onc y k (H.take (k + li)) c := by
      rw [hpo]
      unfold onc
      rw [← map_take (by omega), List.filter_map, List.length_map]
      rfl
    have hsplit : onc y k H c ≤ onc y k (H.take (k + li)) c + (H.length - (k + li)) := by
      have e : onc y k H c = onc y k (H.take (k + li)) c + onc y k (H.drop (k + li)) c := by
        unfold onc
        rw [← List.length_append, ← List.filter_append, List.take_append_drop]
      have e2 : onc y k (H.drop (k + li)) c ≤ (H.drop (k + li)).length := List.length_filter_le _ _
      rw [List.length_drop] at e2
      omega
    have hcm2 := hcm.2
    rw [hli] at hcm2
    have hkl : k ≤ (pts om 8).length := by omega
    have hones : onesS (frN om k) 8 = k := by
      rw [← pts_len, f2, List.length_take]
      omega
    have hbits : ∀ t, t ∈ pts (frN om k) 8 → t < k + li ∧ at29 c k (H.getD t 0 + 1) = y (H.getD t 0) := fun t ht => by
      rw [f2] at ht
      have := List.mem_of_mem_take ht
      rw [hpo, List.mem_filter, List.mem_range] at this
      exact ⟨this.1, of_decide_eq_true this.2⟩
    have hlt : frN om k < 2 ^ (k + li) := by
      apply Nat.lt_pow_two_of_testBit
      intro t ht
      cases hb : (frN om k).testBit t with
      | false => rfl
      | true =>
        have hb2 : frN om k / 2 ^ t % 2 = 1 := by
          rw [← Nat.toNat_testBit, hb]
          rfl
        have ht8 : t < 8 := by
          rcases Nat.lt_or_ge t 8 with g | g
          · exact g
          · have : frN om k / 2 ^ t = 0 := Nat.div_eq_of_lt (Nat.lt_of_lt_of_le (by omega : frN om k < 2 ^ 8) (Nat.pow_le_pow_right (by omega) g))
            rw [this] at hb2
            omega
        have := (hbits t (pts_mem.mpr ⟨ht8, hb2⟩)).1
        omega
    have hge := min_ok (frN om k) f3
    rw [hones] at hge
    refine hno (frN om k) hge (by omega) hones c ⟨hcm.1, fun t ht => ?_⟩ hcm
    obtain ⟨j, hj, rfl⟩ := List.mem_map.mp ht
    exact (hbits j hj).2
  · dsimp only at hc ⊢
    rw [hG1.2.1, nI_add, shl_nI (by omega), nI_leI (by omega) (by omega)] at hc
    have ho8 := onesS_le s 8
    refine j_bc (by omega) ⟨((sk _).1).trans c1, fun he => ?_, fun he => ?_⟩
    · rw [hG1.2.1, nI_ne (by omega) (by omega)] at he
      rintro _ rfl
      exact again S1 (by omega) hsc hG1 fun w => absurd w he
    · rw [hG1.2.1, nI_eq (by omega) (by omega)] at he
      have hsH : ∀ t, t < 8 → s / 2 ^ t % 2 = 1 → t < H.length := fun t ht hb => by
        rcases Nat.lt_or_ge t (k + li) with g | g
        · omega
        · have : s / 2 ^ t = 0 := Nat.div_eq_of_lt (Nat.lt_of_lt_of_le (by omega : s < 2 ^ (k + li)) (Nat.pow_le_pow_right (by omega) g))
          rw [this] at hb
          omega
      refine ⟨((sk _).1).trans c1, c_goThrough (CK_sc hsc hC) hG1 hH hy hk1 (by omega) hsH he fun S2 c hsc2 hG2 hth hn => ⟨(CK_sc (Sc_tr hsc hsc2) hC).2.2.2.2.2.1.1, c_agreeing (CK_sc (Sc_tr hsc hsc2) hC) hG2 hH hy (by omega) hn hth.1 ⟨(CK_sc (Sc_tr hsc hsc2) hC).2.2.2.2.2.1.1, ?_⟩⟩⟩
      have hole : onc y k H c ≤ H.length := List.length_filter_le _ _
      rw [hG2.1, pk_sub (by omega), nI_ltI (by omega) (by omega)]
      refine ⟨fun hl => ?_, fun hl => h1 S2 c (Sc_tr hsc hsc2) hG2 ⟨hth.1, by omega⟩ hn⟩
      rintro _ rfl
      refine again S2 (by omega) (Sc_tr hsc hsc2) hG2 fun _ d hd hm => ?_
      have hTs : List.Sublist ((pts s 8).map (fun j => H.getD j 0)) H := by
        rw [pts_low hHl hsH]
        have h1 : List.Sublist (pts s H.length) (List.range H.length) := List.filter_sublist
        have h2 := h1.map (fun j => H.getD j 0)
        rw [map_range] at h2
        exact h2
      have e := Thr_eq (List.Pairwise.sublist hTs hHn) (fun t ht => hH8 t (hTs.subset ht)) (by rw [List.length_map, pts_len, he]; exact Nat.le_refl _) hd hth
      have h3 := hm.2
      rw [onc_cg e] at h3
      omega
end CGO
