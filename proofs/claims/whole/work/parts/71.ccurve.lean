/-! ===== the class' scratch cells ===== -/
def Sc (x : Nat) (S S' : Hp) : Prop := (∀ a, kd S' a = kd S a ∧ ln S' a = ln S a) ∧ sz S' = sz S ∧ (∀ f a i, gR S' f a i = gR S f a i) ∧ ∀ a, ¬ (x + 3 ≤ a ∧ a ≤ x + 28) → ¬ (x + 33 ≤ a ∧ a ≤ x + 48) → ∀ f i, gI S' f a i = gI S f a i
theorem Sc_rf (x : Nat) (S : Hp) : Sc x S S := ⟨fun _ => ⟨rfl, rfl⟩, rfl, fun _ _ _ => rfl, fun _ _ _ _ _ => rfl⟩
theorem Sc_tr {x : Nat} {S S' S'' : Hp} (h : Sc x S S') (h' : Sc x S' S'') : Sc x S S'' := ⟨fun a => ⟨(h'.1 a).1.trans (h.1 a).1, (h'.1 a).2.trans (h.1 a).2⟩, h'.2.1.trans h.2.1, fun f a i => (h'.2.2.1 f a i).trans (h.2.2.1 f a i), fun a h1 h2 f i => (h'.2.2.2 a h1 h2 f i).trans (h.2.2.2 a h1 h2 f i)⟩
theorem Sc_sI {x : Nat} {S : Hp} {f a i : Nat} {v : Int32} (h : (x + 3 ≤ a ∧ a ≤ x + 28) ∨ (x + 33 ≤ a ∧ a ≤ x + 48)) : Sc x S (sI S f a i v) := ⟨fun _ => ⟨rfl, rfl⟩, rfl, fun _ _ _ => rfl, fun b h1 h2 f' i' => by rw [gI_sI, if_neg (by omega)]⟩
theorem Sc_fr {x : Nat} {S S' : Hp} (h : Sc x S S') : Fr (fun a => ¬ (x + 3 ≤ a ∧ a ≤ x + 28) ∧ ¬ (x + 33 ≤ a ∧ a ≤ x + 48)) S S' := ⟨fun a _ => h.1 a, fun a ha f i => ⟨h.2.2.2 a ha.1 ha.2 f i, h.2.2.1 f a i⟩⟩
theorem Sc_KO {x : Nat} {S S' : Hp} (h : Sc x S S') : KO x S S' := fun a h1 h2 => ⟨(h.1 a).1, (h.1 a).2, fun f i => h.2.2.2 a (by omega) (by omega) f i, fun f i => h.2.2.1 f a i⟩
theorem CK_sc {x : Nat} {S S' : Hp} (h : Sc x S S') (hC : CK S x) : CK S' x := CK_tr (fun a _ => h.1 a) (fun f a i _ _ => h.2.2.1 f a i) hC
theorem CS_sc {x : Nat} {σ : Sg} {S S' : Hp} (h : Sc x S S') (hS : CS S x σ) : CS S' x σ := by
  obtain ⟨hC, hz, ht, h01, bo, nx, wd, ⟨hb, hbo⟩, ⟨hnx, h146, h147, hu⟩, hwk, hL, hB, hU⟩ := id hS
  have hF := Sc_fr h
  obtain ⟨hk, hsz, hr, hi⟩ := id h
  refine ⟨CK_sc h hC, ⟨fun a ha => by rw [(hk a).1]; exact hz.1 a (by omega), by omega⟩, ⟨(hi _ (by omega) (by omega) _ _).trans ht.1, fun i hi' => (hi _ (by omega) (by omega) _ _).trans (ht.2 i hi')⟩, fun j hj => ?_, bo, nx, wd, ⟨(hr _ _ _).trans hb, hbo⟩, ⟨hnx, (hi _ (by omega) (by omega) _ _).trans h146, (hi _ (by omega) (by omega) _ _).trans h147, hu⟩, fun a ha => ((hk a).1).trans (hwk a ha), LineAt_fr hF (fun a _ _ _ => by omega) (fun _ w => w) (by omega) (by omega) hL, BoxAt_fr hF (fun a _ _ => by omega) (fun _ _ w => w) (fun a _ _ _ => by omega) hB, URel_fr _ nx S _ hF (fun a _ _ => by omega) (fun a _ _ _ => by omega) (fun i hi => by omega) (fun _ w => w) (fun _ _ w => w) hU⟩
  rw [hi _ (by omega) (by omega) _ _]
  exact h01 j hj
/-! ===== floorMod of small numbers, valueAt ===== -/
def fmF (x : Int32) : Int32 := if 0 ≤ (x ^^^ 29) then x - x / 29 * 29 else if x - x / 29 * 29 = 0 then x - x / 29 * 29 else x - x / 29 * 29 + 29
theorem fm_ok : ∀ n, n < 2048 → fmF (nI n - nI 1024) = nI ((n + 20) % 29) := by decide +kernel
theorem j_fm {v : Int32} {z : Int} {S : Hp} {Q : Int32 → Prop} (hv : v.toInt = z) (h1 : -1000 ≤ z) (h2 : z ≤ 1000) (h : ∀ r : Nat, r < 29 → (29 : Int) ∣ (r : Int) - z → Q (nI r)) : wp_J9_floorMod_7cf53 v 29 S Q := by
  obtain ⟨n, hn⟩ : ∃ n : Nat, (n : Int) = z + 1024 := ⟨(z + 1024).toNat, by omega⟩
  have ev' : v = nI n - nI 1024 := by
    apply Int32.toInt_inj.mp
    rw [hv, pk_sub_toInt (by omega) (by omega)]
    omega
  have hf := fm_ok n (by omega)
  rw [← ev'] at hf
  have hQ := h ((n + 20) % 29) (Nat.mod_lt _ (by decide)) (by omega)
  rw [← hf] at hQ
  unfold fmF at hQ
  refine ⟨by decide, ?_⟩
  rintro _ rfl
  refine ⟨fun hc => ?_, fun hc => ⟨fun hd => ?_, fun hd => ?_⟩⟩
  · rw [if_pos hc] at hQ
    exact hQ
  · rw [if_neg hc, if_pos hd] at hQ
    exact hQ
  · rw [if_neg hc, if_neg hd] at hQ
    exact hQ
theorem j_fmN {a : Nat} {S : Hp} {Q : Int32 → Prop} (ha : a ≤ 1000) (h : Q (nI (a % 29))) : wp_J9_floorMod_7cf53 (nI a) 29 S Q := by
  refine j_fm (z := a) (nI_toInt (by omega)) (by omega) (by omega) fun r hr hd => ?_
  have : r = a % 29 := by omega
  rw [this]
  exact h
/-- the curve of k numbers of an array, from a place on -/
theorem c_valueAt {S : Hp} {a l fr k x : Nat} {c : Nat → Nat} {Q : Int32 → Prop} (h20 : kd S a = 20) (hl : ln S a = l) (hl2 : l < 2 ^ 20) (hf : fr < 2 ^ 20) (hk : k ≤ 9) (hx : x ≤ 8) (hc : ∀ j, j < k → fr + j < l → gI S 0 a (fr + j) = nI (c j)) (hc0 : ∀ j, j < k → ¬ fr + j < l → c j = 0) (hc2 : ∀ j, j < k → c j < 29) (h : Q (nI (at29 c k x))) : wp_X11_valueAt a (nI fr) (nI k) (nI x) S Q := by
  rintro _ rfl
  refine Lp_for (fun j => (nI (hr c k x j), dn (k - j))) k (fun j hj K hK => ?_) (fun K => ?_) (i := 0) (by omega)
  · have hd : dn (k - j) = nI (k - 1 - j) := by rw [show k - j = (k - 1 - j) + 1 by omega, dn_s]
    have hlt := hr_lt c k x j
    have hcj := hc2 (k - 1 - j) (by omega)
    have hm : hr c k x j * x ≤ 28 * 8 := Nat.mul_le_mul (by omega) hx
    have go : wp_X11_valueAt_38 (fun w0 w1 => K (w0, w1)) Q a (nI fr) (nI x) (nI (hr c k x j)) (nI (k - 1 - j)) (nI (c (k - 1 - j))) S := by
      show wp_J9_floorMod_7cf53 _ 29 S _
      rw [pk_mul, nI_add]
      refine j_fmN (by omega) ?_
      rintro _ rfl
      rw [dn_m]
      rw [show k - (j + 1) = k - 1 - j by omega] at hK
      exact hK
    refine ⟨fun hc => ?_, fun _ => ⟨h20, ?_⟩⟩
    · dsimp only at hc
      rw [dn_lt0 (by omega)] at hc
      omega
    · dsimp only
      rw [hd, hl, of_nI, nI_add]
      refine c_withinN (by omega) (fun i hi hx => ⟨fun w => absurd w (by decide), fun _ => ⟨h20, ?_, ?_⟩⟩) (fun hn => ⟨fun _ => ?_, fun w => absurd rfl w⟩)
      · rw [vp_nI (by omega)]
        have := nI_inj (by omega) (by omega) hx
        omega
      · have := nI_inj (by omega) (by omega) hx
        rw [nI_clamp (by omega), hc _ (by omega) (by omega)]
        exact go
      · rw [vp_nI (by omega)] at hn
        have e := hc0 (k - 1 - j) (by omega) hn
        have e0 : (0 : Int32) = nI (c (k - 1 - j)) := by rw [e]; rfl
        rw [e0]
        exact go
  · refine ⟨fun _ => h, fun hc => absurd ?_ hc⟩
    dsimp only
    rw [dn_lt0 (by omega)]
    omega
/-! ===== the class' curve ===== -/
section CCURVE
variable {S : Hp} {x : Nat} {σ : Sg} {q : Nat → Nat}
/-- the points that are held -/
def CvG (S : Hp) (co : Nat) (H : List Nat) (y : Nat → Nat) (k : Nat) : Prop := gI S 19 co 0 = nI H.length ∧ gI S 20 co 0 = nI k ∧ ∀ h, h < H.length → gI S 0 (co + 1) h = nI (H.getD h 0 + 1) ∧ gI S 0 (co + 2) h = nI (y (H.getD h 0))
theorem getD_app1 {L : List Nat} {p h : Nat} (hh : h < L.length) : (L ++ [p]).getD h 0 = L.getD h 0 := by
  rw [getD_at hh, getD_at (by rw [List.length_append]; omega)]
  exact List.getElem_append_left hh
theorem getD_app2 {L : List Nat} {p : Nat} : (L ++ [p]).getD L.length 0 = p := by
  rw [getD_at (by rw [List.length_append, List.length_singleton]; omega)]
  simp
theorem hol_s (q : Nat → Nat) (i p : Nat) : hol q i (p + 1) = hol q i p ++ (if has q p i then [p] else []) := by
  unfold hol
  rw [List.range_succ, List.filter_append]
  by_cases h : has q p i
  · rw [if_pos h]
    simp [h]
  · rw [if_neg h]
    simp [h]
theorem c_gather {wd : Nat → Prop} {bo p s : Nat} {Q : Hp → Prop} (hC : CK S x) (hB : BoxAt S wd (x + 111) bo q) (hV : V q) (hp : p < q 93) (hs : s < qS q p) (h : ∀ S', Sc x S S' → CvG S' (x + 43) (hol q (q (98 + 3 * p) + s) (q 94)) (yv q (q (98 + 3 * p) + s)) (q (97 + 3 * p)) → Q S') : wp_X3_gather bo (nI p) (nI s) (x + 43) S Q := by
  have h8 := hV.2.2.2.2.1
  have hv := hV.2.2.2.2.2.1 p hp
  have hpl := pl_lt hV hp hs
  have hpl2 : q (98 + 3 * p) + s < q 95 := by
    have := hv.2.2
    unfold qS at hs
    omega
  obtain ⟨g0, ⟨g1, g2, g3, g4⟩, g5, g6, ⟨g7, g7', g7''⟩, g8, g9⟩ := id hB
  obtain ⟨⟨a, a1, a2, a3, a4, w, a5, a6⟩, a7⟩ := g8 p hp
  obtain ⟨-, -, -, -, -, ⟨c1, c2, c3, c4, c5, c6⟩, -⟩ := id hC
  have hlo : x + 111 ≤ bo := by
    rcases g0 with g | g
    · exact g
    · omega
  refine ⟨g1, _, g6.1, g6.2.1, by rw [g6.2.2]; exact vp_li (by omega) (by omega), ?_⟩
  rintro _ rfl
  rw [nI_clamp (by omega), a7, nI_add]
  refine ⟨g1, _, g5.1, g5.2.1, by rw [g5.2.2]; exact vp_li (by omega) (by omega), a, a1, a3, c1, ?_⟩
  rw [a4]
  refine j_min (a := q (97 + 3 * p)) (b := 8) (by omega) (by omega) (j_max (a := 1) (by omega) (by omega) ⟨c1, ?_⟩)
  rw [show max 1 (min (q (97 + 3 * p)) 8) = q (97 + 3 * p) by omega]
  rintro _ rfl
  refine ⟨c1, ?_⟩
  rintro _ rfl
  generalize hi : q (98 + 3 * p) + s = i at *
  refine Lp_of (fun n y => ∃ t S', t ≤ q 94 ∧ n = q 94 - t ∧ y = (nI t, S') ∧ Sc x S S' ∧ CvG S' (x + 43) (hol q i t) (yv q i) (q (97 + 3 * p))) (fun n y hy K hK => ?_) (n := q 94) (x := (nI 0, _)) ⟨0, _, by omega, rfl, rfl, Sc_tr (Sc_sI (by omega)) (Sc_sI (by omega)), ?_, ?_, fun h hh => absurd hh (Nat.not_lt_zero _)⟩
  · obtain ⟨t, S', ht, rfl, rfl, hsc, hcv⟩ := hy
    obtain ⟨sk, ssz, sr, si⟩ := id hsc
    have hl := hol_le q i t
    obtain ⟨v19, v20, v17⟩ := id hcv
    refine ⟨((sk _).1).trans g1, fun hc => ?_, fun hc => ?_⟩
    · dsimp only at hc ⊢
      rw [si bo (by omega) (by omega), g3, nI_leI (by omega) (by omega)] at hc
      obtain rfl : t = q 94 := by omega
      exact h S' hsc hcv
    · dsimp only at hc ⊢
      rw [si bo (by omega) (by omega), g3, nI_leI (by omega) (by omega)] at hc
      obtain ⟨⟨b1, b2, b3, b4, b5⟩, b6, b7, b8⟩ := g9 t (by omega)
      have hvt := hV.2.2.2.2.2.2.1 t (by omega)
      have er : ∀ f a i, gR S' f a i = gR S f a i := sr
      refine ⟨((sk _).1).trans g1, _, (er _ _ _).trans g7, ((sk _).1).trans g7', by rw [(sk _).2, g7'']; exact vp_li (by omega) (by omega), _, by rw [nI_clamp (by omega), er]; exact b1, ((sk _).1).trans b2, c_holds (l := q (122 + t)) (e := q (114 + t)) (((sk _).1).trans b2) ((si _ (by omega) (by omega) _ _).trans b6) ((si _ (by omega) (by omega) _ _).trans b7) (by omega) (by omega) (fun j hj hx hz0 => ⟨fun w => absurd w (by decide), fun _ => ?_⟩) (fun hn => ⟨fun _ => ?_, fun w => absurd rfl w⟩)⟩
      · obtain rfl : i = j := nI_inj (by omega) (by omega) hx
        have hhas : has q t i := ⟨hz0, hj⟩
        refine ⟨((sk _).1).trans g1, _, (er _ _ _).trans g7, ((sk _).1).trans g7', by rw [(sk _).2, g7'']; exact vp_li (by omega) (by omega), _, by rw [nI_clamp (by omega), er]; exact b1, ((sk _).1).trans b2, _, (er _ _ _).trans b4.1, ((sk _).1).trans b4.2.1, by rw [(sk _).2, b4.2.2]; exact vp_li (by omega) (by omega), ((sk _).1).trans c1, ((sk _).1).trans c1, fun hd => ?_, fun hd => ?_⟩
        · rw [v19, li_8, nI_leI (by omega) (by omega)] at hd
          omega
        · have eval : gI S' 0 (bo + 6 + 3 * t) (nI i).toNatClampNeg = nI (yv q i t) := by
            rw [nI_clamp (by omega), si _ (by omega) (by omega)]
            exact (b8 i hpl2).2
          have hk43 : ∀ f v a i w, kd (sI (sI S' f a i v) f a i w) = kd S' := fun _ _ _ _ _ => rfl
          refine ⟨((sk _).1).trans c1, ((sk _).1).trans c1, _, (er _ _ _).trans c2.1, ((sk _).1).trans c2.2.1, by rw [v19, (sk _).2, c2.2.2]; exact vp_li (by omega) (by omega), ?_⟩
          rintro _ rfl
          rw [eval, v19, nI_clamp (by omega), nI_1]
          have e19 : gI (sI S' 0 (x + 44) (hol q i t).length (nI (t + 1))) 19 (x + 43) 0 = nI (hol q i t).length := by rw [gI_sI, if_neg (by omega)]; exact v19
          refine ⟨((sk _).1).trans c1, ((sk _).1).trans c1, _, (er _ _ _).trans c3.1, ((sk _).1).trans c3.2.1, by rw [e19, ln_sI, (sk _).2, c3.2.2]; exact vp_li (by omega) (by omega), ?_⟩
          rintro _ rfl
          rw [e19, nI_clamp (by omega)]
          have e19' : gI (sI (sI S' 0 (x + 44) (hol q i t).length (nI (t + 1))) 0 (x + 45) (hol q i t).length (nI (yv q i t))) 19 (x + 43) 0 = nI (hol q i t).length := by rw [gI_sI, if_neg (by omega)]; exact e19
          refine ⟨((sk _).1).trans c1, ((sk _).1).trans c1, ?_⟩
          rintro _ rfl _ rfl
          rw [e19', nI_1, nI_1]
          have ehl : hol q i (t + 1) = hol q i t ++ [t] := by rw [hol_s, if_pos hhas]
          refine hK _ (q 94 - (t + 1)) (by omega) ⟨t + 1, _, by omega, rfl, rfl, Sc_tr hsc (Sc_tr (Sc_sI (by omega)) (Sc_tr (Sc_sI (by omega)) (Sc_sI (by omega)))), ?_, ?_, fun h hh => ?_⟩
          · rw [gI_sI, if_pos ⟨rfl, rfl, rfl⟩, ehl, List.length_append]
            rfl
          · rw [gI_sI, if_neg (by omega), gI_sI, if_neg (by omega), gI_sI, if_neg (by omega)]
            exact v20
          · rw [ehl] at hh ⊢
            rw [List.length_append, List.length_singleton] at hh
            by_cases eh : h = (hol q i t).length
            · subst eh
              rw [getD_app2, show x + 43 + 1 = x + 44 by omega, show x + 43 + 2 = x + 45 by omega]
              refine ⟨?_, ?_⟩
              · rw [gI_sI, if_neg (by omega), gI_sI, if_neg (by omega), gI_sI, if_pos ⟨rfl, rfl, rfl⟩]
              · rw [gI_sI, if_neg (by omega), gI_sI, if_pos ⟨rfl, rfl, rfl⟩]
            · rw [getD_app1 (by omega)]
              refine ⟨?_, ?_⟩
              · rw [gI_sI, if_neg (by omega), gI_sI, if_neg (by omega), gI_sI, if_neg (by omega)]
                exact (v17 h (by omega)).1
              · rw [gI_sI, if_neg (by omega), gI_sI, if_neg (by omega), gI_sI, if_neg (by omega)]
                exact (v17 h (by omega)).2
      · rintro _ rfl
        rw [nI_1]
        refine hK _ (q 94 - (t + 1)) (by omega) ⟨t + 1, S', by omega, rfl, rfl, hsc, ?_⟩
        have : ¬ has q t i := fun w => hn ⟨w.1, (vp_nI (by omega)).mpr w.2⟩
        rw [hol_s, if_neg this, List.append_nil]
        exact hcv
  · rw [gI_sI, if_pos ⟨rfl, rfl, rfl⟩]
    rfl
  · rw [gI_sI, if_neg (by omega), gI_sI, if_pos ⟨rfl, rfl, rfl⟩]
end CCURVE
