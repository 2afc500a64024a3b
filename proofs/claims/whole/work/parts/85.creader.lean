/-! ===== the class' reader: clauses ===== -/
section CRD
variable {S S' : Hp} {x : Nat} {T : Nat → Nat} {L : Nat}
theorem tx_ok : ∀ w, w < 4 → txN.getD w 0 = wlen w ∧ ∀ k, k < wlen w → (txB.getD w []).getD k 0 = nI (wdT (7 * w + k)) := by decide
theorem c_says {w f : Nat} {Q : Int32 → Prop} (h : CT S x T L) (hw : w < 4) (hf : f ≤ L) (h1 : wIs T L f w → Q 1) (h0 : ¬ wIs T L f w → Q 0) : wp_X10_says (x + 1) (nI f) (nI (tE T L f)) w S Q := by
  obtain ⟨e1, e2⟩ := tx_ok w hw
  obtain ⟨⟨w1, w2⟩, w3⟩ := wd_ok w hw
  have heg := tE_ge (T := T) (L := L) (f := f)
  have hel := tE_le (T := T) hf
  have hL := h.2.2.2.1
  refine ⟨hw, fun hc => ?_, fun hc => h0 fun z => hc ?_⟩
  · rw [pk_sub heg, e1, of_nI, nI_eq (by omega) (by omega)] at hc
    refine Lp_of (fun n y => ∃ k, k ≤ wlen w ∧ n = wlen w - k ∧ y = nI k ∧ ∀ j, j < k → T (f + j) = wdT (7 * w + j)) (fun n y hy K hK => ?_) (n := wlen w) (x := nI 0) ⟨0, by omega, rfl, rfl, fun j hj => absurd hj (Nat.not_lt_zero j)⟩
    obtain ⟨k, hk, rfl, rfl, hall⟩ := hy
    refine ⟨hw, fun hd => ?_, fun hd => ⟨hw, ?_, h.1.1, ?_⟩⟩
    · rw [e1, of_nI, nI_leI (by omega) (by omega)] at hd
      exact h1 ⟨by omega, fun j hj => hall j (by omega)⟩
    · rw [e1, of_nI, nI_leI (by omega) (by omega)] at hd
      rw [e1]
      exact vp_li (by omega) (by omega)
    · rw [e1, of_nI, nI_leI (by omega) (by omega)] at hd
      have hb := (w3 k (by omega)).1 (by omega)
      rw [nI_add, nI_clamp (by omega), e2 k (by omega)]
      refine c_isSign (c := wdT (7 * w + k)) h (by omega) rfl (by omega) (fun _ hs => ⟨fun _ => ?_, fun z => absurd z (by decide)⟩) (fun hn => ⟨fun z => absurd rfl z, fun _ => h0 fun z => hn ⟨by omega, z.2 k (by omega)⟩⟩)
      rintro _ rfl
      rw [nI_1]
      refine hK _ (wlen w - (k + 1)) (by omega) ⟨k + 1, by omega, rfl, rfl, fun j hj => ?_⟩
      by_cases e : j = k
      · rw [e]
        exact hs
      · exact hall j (by omega)
  · rw [pk_sub heg, e1, of_nI, nI_eq (by omega) (by omega)]
    have := z.1
    omega
/-- which word a clause begins with -/
def cwd (T : Nat → Nat) (L f : Nat) : Nat := if wIs T L f 0 then 0 else if wIs T L f 1 then 1 else if wIs T L f 2 then 2 else 3
/-- a clause as it was read -/
def ClAt (S : Hp) (ca : Nat) (T : Nat → Nat) (L f : Nat) : Prop := gI S 1 ca 0 = nI (cwd T L f) ∧ (cwd T L f = 1 ∨ cwd T L f = 2 → gI S 4 ca 0 = nI (vl T L (nF T L f))) ∧ (cwd T L f = 3 → gI S 2 ca 0 = nI (nF T L f) ∧ gI S 3 ca 0 = nI (tE T L (nF T L f) - nF T L f) ∧ gI S 4 ca 0 = nI (vl T L (nF T L (nF T L f))) ∧ gI S 5 ca 0 = nI (vl T L (nF T L (nF T L (nF T L f)))))
def Pc (x ca f a : Nat) : Prop := (a = x + 3 ∧ (f = 116 ∨ f = 117 ∨ f = 118 ∨ f = 119 ∨ f = 120)) ∨ a = ca
theorem c_takeFirst {Q : Int32 → Hp → Prop} {b hi ca : Nat} {v : Int32} (h : CT S x T L) (hca : kd S ca = 1) (hcx : x + 5 ≤ ca) (h8 : gI S 118 (x + 3) 0 = nI b) (hb : b ≤ L) (hhi : hi ≤ 40) (hv : v = nI hi)
    (h1 : nmOk T L (tF T L b) hi → ∀ S', Gx (fun f a => Pn x f a ∨ (a = ca ∧ f = 4)) S S' → gI S' 118 (x + 3) 0 = nI (tE T L (tF T L b)) → gI S' 4 ca 0 = nI (vl T L (tF T L b)) → Q 1 S')
    (h0 : ¬ nmOk T L (tF T L b) hi → ∀ S', Gx (fun f a => Pn x f a ∨ (a = ca ∧ f = 4)) S S' → gI S' 117 (x + 3) 0 = nI (tF T L b) → Q 0 S') : wp_X7_takeFirst (x + 3) ca v S Q := by
  have gs : ∀ {S' : Hp} {v : Int32}, Gx (Pn x) S S' → Gx (fun f a => Pn x f a ∨ (a = ca ∧ f = 4)) S (sI S' 4 ca 0 v) := fun g => Gx_tr (Gx_sub g (fun f a w => Or.inl w)) (Gx_sI (Or.inr ⟨rfl, rfl⟩))
  refine ⟨h.2.1.1, c_takeNumber h h8 hb hhi hv (fun hn S' hG e8 e0 => ⟨((hG.1 _).1).trans h.2.1.1, ((hG.1 _).1).trans hca, ?_⟩) (fun hn S' hG e7 => ⟨((hG.1 _).1).trans h.2.1.1, ((hG.1 _).1).trans hca, ?_⟩)⟩
  · rintro _ rfl
    refine ⟨Or.inr rfl, h1 hn _ (gs hG) ?_ ?_⟩
    · rw [gI_sI, if_neg (by omega)]
      exact e8
    · rw [gI_sI, if_pos ⟨rfl, rfl, rfl⟩]
      exact e0
  · rintro _ rfl
    refine ⟨Or.inl rfl, h0 hn _ (gs hG) ?_⟩
    rw [gI_sI, if_neg (by omega)]
    exact e7
theorem c_takeSecond {Q : Int32 → Hp → Prop} {b hi ca : Nat} {v : Int32} (h : CT S x T L) (hca : kd S ca = 1) (hcx : x + 5 ≤ ca) (h8 : gI S 118 (x + 3) 0 = nI b) (hb : b ≤ L) (hhi : hi ≤ 40) (hv : v = nI hi)
    (h1 : nmOk T L (tF T L b) hi → ∀ S', Gx (fun f a => Pn x f a ∨ (a = ca ∧ f = 5)) S S' → gI S' 118 (x + 3) 0 = nI (tE T L (tF T L b)) → gI S' 5 ca 0 = nI (vl T L (tF T L b)) → Q 1 S')
    (h0 : ¬ nmOk T L (tF T L b) hi → ∀ S', Gx (fun f a => Pn x f a ∨ (a = ca ∧ f = 5)) S S' → gI S' 117 (x + 3) 0 = nI (tF T L b) → Q 0 S') : wp_X7_takeSecond (x + 3) ca v S Q := by
  have gs : ∀ {S' : Hp} {v : Int32}, Gx (Pn x) S S' → Gx (fun f a => Pn x f a ∨ (a = ca ∧ f = 5)) S (sI S' 5 ca 0 v) := fun g => Gx_tr (Gx_sub g (fun f a w => Or.inl w)) (Gx_sI (Or.inr ⟨rfl, rfl⟩))
  refine ⟨h.2.1.1, c_takeNumber h h8 hb hhi hv (fun hn S' hG e8 e0 => ⟨((hG.1 _).1).trans h.2.1.1, ((hG.1 _).1).trans hca, ?_⟩) (fun hn S' hG e7 => ⟨((hG.1 _).1).trans h.2.1.1, ((hG.1 _).1).trans hca, ?_⟩)⟩
  · rintro _ rfl
    refine ⟨Or.inr rfl, h1 hn _ (gs hG) ?_ ?_⟩
    · rw [gI_sI, if_neg (by omega)]
      exact e8
    · rw [gI_sI, if_pos ⟨rfl, rfl, rfl⟩]
      exact e0
  · rintro _ rfl
    refine ⟨Or.inl rfl, h0 hn _ (gs hG) ?_⟩
    rw [gI_sI, if_neg (by omega)]
    exact e7
theorem tkK_1 {f : Nat} : tkK T L f = 1 ↔ f < L ∧ isSm (T f) = true := by
  unfold tkK
  by_cases c1 : f < L
  · rw [if_pos c1]
    by_cases c2 : isSm (T f) = true
    · rw [if_pos c2]
      exact ⟨fun _ => ⟨c1, c2⟩, fun _ => rfl⟩
    · rw [if_neg c2]
      refine ⟨fun w => ?_, fun w => absurd w.2 c2⟩
      split at w
      · exact absurd w (by decide)
      · exact absurd w (by decide)
  · rw [if_neg c1]
    exact ⟨fun w => absurd w (by decide), fun w => absurd w.1 c1⟩
theorem tkK_0 {f : Nat} : tkK T L f = 0 ↔ ¬ f < L := by
  unfold tkK
  by_cases c1 : f < L
  · rw [if_pos c1]
    refine ⟨fun w => ?_, fun w => absurd c1 w⟩
    split at w
    · exact absurd w (by decide)
    · split at w
      · exact absurd w (by decide)
      · exact absurd w (by decide)
  · rw [if_neg c1]
    exact ⟨fun _ => c1, fun _ => rfl⟩
theorem c_takeWord {Q : Int32 → Hp → Prop} {b ca : Nat} (h : CT S x T L) (hca : kd S ca = 1) (hcx : x + 5 ≤ ca) (h8 : gI S 118 (x + 3) 0 = nI b) (hb : b ≤ L)
    (h1 : wdOk T L (tF T L b) → ∀ S', Gx (fun f a => Pn x f a ∨ (a = ca ∧ (f = 2 ∨ f = 3))) S S' → gI S' 118 (x + 3) 0 = nI (tE T L (tF T L b)) → gI S' 2 ca 0 = nI (tF T L b) → gI S' 3 ca 0 = nI (tE T L (tF T L b) - tF T L b) → Q 1 S')
    (h0 : ¬ wdOk T L (tF T L b) → ∀ S', Gx (fun f a => Pn x f a ∨ (a = ca ∧ (f = 2 ∨ f = 3))) S S' → gI S' 117 (x + 3) 0 = nI (tF T L b) → Q 0 S') : wp_X7_takeWord (x + 3) ca S Q := by
  have hL := h.2.2.2.1
  have hfl := tF_le (T := T) hb
  refine ⟨h.2.1.1, c_takeToken h h8 hb fun S2 hG2 e7 e8 e6 => ?_⟩
  generalize tF T L b = f at *
  have heg := tE_ge (T := T) (L := L) (f := f)
  have hel := tE_le (T := T) hfl
  have k2 : kd S2 (x + 3) = 8 := ((hG2.1 _).1).trans h.2.1.1
  have c2 : kd S2 ca = 1 := ((hG2.1 _).1).trans hca
  refine ⟨k2, c2, ?_⟩
  rintro _ rfl
  refine ⟨k2, k2, c2, ?_⟩
  rintro _ rfl
  have hG4 : Gx (fun f a => Pn x f a ∨ (a = ca ∧ (f = 2 ∨ f = 3))) S (sI (sI S2 2 ca 0 (gI S2 117 (x + 3) 0)) 3 ca 0 (gI (sI S2 2 ca 0 (gI S2 117 (x + 3) 0)) 118 (x + 3) 0 - gI (sI S2 2 ca 0 (gI S2 117 (x + 3) 0)) 117 (x + 3) 0)) := Gx_tr (Gx_sub hG2 (fun f a w => Or.inl ⟨w.1, by have := w.2; omega⟩)) (Gx_tr (Gx_sI (Or.inr ⟨rfl, by omega⟩)) (Gx_sI (Or.inr ⟨rfl, by omega⟩)))
  have e7' : gI (sI S2 2 ca 0 (gI S2 117 (x + 3) 0)) 117 (x + 3) 0 = nI f := by rw [gI_sI, if_neg (by omega)]; exact e7
  have e8' : gI (sI S2 2 ca 0 (gI S2 117 (x + 3) 0)) 118 (x + 3) 0 = nI (tE T L f) := by rw [gI_sI, if_neg (by omega)]; exact e8
  rw [e7', e8', pk_sub heg, e7] at hG4 ⊢
  have a7 : gI (sI (sI S2 2 ca 0 (nI f)) 3 ca 0 (nI (tE T L f - f))) 117 (x + 3) 0 = nI f := by rw [gI_sI, if_neg (by omega), gI_sI, if_neg (by omega)]; exact e7
  have a8 : gI (sI (sI S2 2 ca 0 (nI f)) 3 ca 0 (nI (tE T L f - f))) 118 (x + 3) 0 = nI (tE T L f) := by rw [gI_sI, if_neg (by omega), gI_sI, if_neg (by omega)]; exact e8
  have a6 : gI (sI (sI S2 2 ca 0 (nI f)) 3 ca 0 (nI (tE T L f - f))) 116 (x + 3) 0 = tkK T L f := by rw [gI_sI, if_neg (by omega), gI_sI, if_neg (by omega)]; exact e6
  have a2 : gI (sI (sI S2 2 ca 0 (nI f)) 3 ca 0 (nI (tE T L f - f))) 2 ca 0 = nI f := by rw [gI_sI, if_neg (by omega), gI_sI, if_pos ⟨rfl, rfl, rfl⟩]
  have a3 : gI (sI (sI S2 2 ca 0 (nI f)) 3 ca 0 (nI (tE T L f - f))) 3 ca 0 = nI (tE T L f - f) := by rw [gI_sI, if_pos ⟨rfl, rfl, rfl⟩]
  refine ⟨k2, fun hc => ⟨Or.inl rfl, h0 ?_ _ hG4 a7⟩, fun hc => ⟨c2, fun hd => ⟨Or.inl rfl, h0 ?_ _ hG4 a7⟩, fun hd => ⟨Or.inr rfl, h1 ?_ _ hG4 a8 a2 a3⟩⟩⟩
  · rw [a6] at hc
    exact fun w => hc (tkK_1.mpr ⟨w.1, w.2.1⟩)
  · rw [a3, li_12, nI_ltI (by omega) (by omega)] at hd
    exact fun w => by have := w.2.2; omega
  · rw [a6] at hc
    rw [a3, li_12, nI_ltI (by omega) (by omega)] at hd
    exact ⟨(tkK_1.mp hc).1, (tkK_1.mp hc).2, by omega⟩
theorem c_takeClause {Q : Int32 → Hp → Prop} {b m ca : Nat} (h : CT S x T L) (hca : kd S ca = 1) (hcx : x + 5 ≤ ca) (hcy : ca ≤ x + 28) (h8 : gI S 118 (x + 3) 0 = nI b) (h9 : gI S 119 (x + 3) 0 = nI m) (hm : m ≤ 6) (hb : b ≤ L)
    (h1 : ck T L (tF T L b) m ≠ 4 → ∀ S', Gx (Pc x ca) S S' → gI S' 118 (x + 3) 0 = nI (tE T L (cl T L (tF T L b))) → gI S' 119 (x + 3) 0 = nI (cm T L (tF T L b) m) → ClAt S' ca T L (tF T L b) → Q 1 S')
    (h0 : ck T L (tF T L b) m = 4 → ∀ S', Gx (Pc x ca) S S' → gI S' 117 (x + 3) 0 = nI (cf T L (tF T L b) m) → Q 0 S') : wp_X7_takeClause (x + 3) ca S Q := by
  have hL := h.2.2.2.1
  have hfl := tF_le (T := T) hb
  refine ⟨h.2.1.1, c_takeToken h h8 hb fun S2 hG2 e7 e8 e6 => ?_⟩
  generalize tF T L b = f at *
  have hG2' : Gx (Pc x ca) S S2 := Gx_sub hG2 (fun f a w => Or.inl ⟨w.1, by have := w.2; omega⟩)
  have hPc : ∀ f a, Pc x ca f a → x + 3 ≤ a ∧ a ≤ x + 28 := fun f a w => by
    rcases w with w | w
    · have := w.1
      omega
    · omega
  have hC2 := CT_gx hG2' hPc h
  have k2 := hC2.2.1.1
  have c2 : kd S2 ca = 1 := ((hG2.1 _).1).trans hca
  have e9 : gI S2 119 (x + 3) 0 = nI m := by
    rw [hG2.2.2.2 _ _ _ (fun w => by have := w.2; omega)]
    exact h9
  have hel := tE_le (T := T) hfl
  have hnl := nF_le (T := T) hfl
  have hsub : ∀ (j : Nat → Prop) (f a : Nat), (Pn x f a ∨ (a = ca ∧ j f)) → Pc x ca f a := fun j f a w => by
    rcases w with w | w
    · exact Or.inl ⟨w.1, by have := w.2; omega⟩
    · exact Or.inr w.1
  refine ⟨k2, k2, k2, _, hC2.2.1.2, hC2.1.1, ?_⟩
  rw [e7, e8]
  refine c_says (w := 0) hC2 (by omega) hfl (fun i0 => ⟨fun z => absurd z (by decide), fun _ => ⟨c2, ?_⟩⟩) (fun n0 => ⟨fun _ => ⟨k2, k2, k2, _, hC2.2.1.2, hC2.1.1, ?_⟩, fun z => absurd rfl z⟩)
  · -- all
    rintro _ rfl
    refine ⟨k2, ?_⟩
    rintro _ rfl
    have hw : cwd T L f = 0 := by unfold cwd; rw [if_pos i0]
    refine h1 ?_ _ (Gx_tr hG2' (Gx_tr (Gx_sI (Or.inr rfl)) (Gx_sI (Or.inl ⟨rfl, by omega⟩)))) ?_ ?_ ⟨?_, fun w => ?_, fun w => ?_⟩
    · unfold ck
      rw [if_pos i0]
      omega
    · rw [gI_sI, if_neg (by omega), gI_sI, if_neg (by omega)]
      unfold cl
      rw [if_pos i0]
      exact e8
    · rw [gI_sI, if_pos ⟨rfl, rfl, rfl⟩]
      unfold cm
      rw [if_pos i0]
      rfl
    · rw [gI_sI, if_neg (by omega), gI_sI, if_pos ⟨rfl, rfl, rfl⟩, hw]
      rfl
    · omega
    · omega
  · refine c_says (w := 1) hC2 (by omega) hfl (fun i1 => ⟨fun z => absurd z (by decide), fun _ => ⟨c2, ?_⟩⟩) (fun n1 => ⟨fun _ => ⟨k2, k2, k2, _, hC2.2.1.2, hC2.1.1, ?_⟩, fun z => absurd rfl z⟩)
    · -- packets
      rintro _ rfl
      have hw : cwd T L f = 1 := by unfold cwd; rw [if_neg n0, if_pos i1]
      have hG3 : Gx (Pc x ca) S (sI S2 1 ca 0 1) := Gx_tr hG2' (Gx_sI (Or.inr rfl))
      have hC3 := CT_gx hG3 hPc h
      have b8 : gI (sI S2 1 ca 0 1) 118 (x + 3) 0 = nI (tE T L f) := by rw [gI_sI, if_neg (by omega)]; exact e8
      have b9 : gI (sI S2 1 ca 0 1) 119 (x + 3) 0 = nI m := by rw [gI_sI, if_neg (by omega)]; exact e9
      have b1 : gI (sI S2 1 ca 0 1) 1 ca 0 = nI 1 := by rw [gI_sI, if_pos ⟨rfl, rfl, rfl⟩]; rfl
      have c3 : kd (sI S2 1 ca 0 1) ca = 1 := c2
      generalize sI S2 1 ca 0 1 = S3 at *
      refine ⟨hC3.2.1.1, c_takeFirst (hi := 8) hC3 c3 hcx b8 hel (by omega) rfl (fun hn S4 hG4 d8 d4 => ⟨Or.inr rfl, h1 ?_ S4 (Gx_tr hG3 (Gx_sub hG4 (hsub _))) ?_ ?_ ⟨?_, fun _ => ?_, fun w => ?_⟩⟩) (fun hn S4 hG4 d7 => ⟨Or.inl rfl, h0 ?_ S4 (Gx_tr hG3 (Gx_sub hG4 (hsub _))) ?_⟩)⟩
      · unfold ck
        rw [if_neg n0, if_pos i1, if_pos hn]
        omega
      · unfold cl
        rw [if_neg n0, if_pos i1]
        exact d8
      · unfold cm
        rw [if_neg n0, if_pos i1, hG4.2.2.2 _ _ _ (fun w => by rcases w with w | w; (have := w.2; omega); (have := w.2; omega))]
        exact b9
      · rw [hw, hG4.2.2.2 _ _ _ (fun w => by rcases w with w | w; (have := w.2; omega); (have := w.2; omega))]
        exact b1
      · exact d4
      · omega
      · unfold ck
        rw [if_neg n0, if_pos i1, if_neg hn]
      · unfold cf
        rw [if_neg n0, if_pos i1]
        exact d7
    · refine c_says (w := 2) hC2 (by omega) hfl (fun i2 => ⟨fun z => absurd z (by decide), fun _ => ⟨c2, ?_⟩⟩) (fun n2 => ⟨fun _ => ⟨k2, k2, k2, _, hC2.2.1.2, hC2.1.1, ?_⟩, fun z => absurd rfl z⟩)
      · -- room
        rintro _ rfl
        have hw : cwd T L f = 2 := by unfold cwd; rw [if_neg n0, if_neg n1, if_pos i2]
        have hG3 : Gx (Pc x ca) S (sI S2 1 ca 0 2) := Gx_tr hG2' (Gx_sI (Or.inr rfl))
        have hC3 := CT_gx hG3 hPc h
        have b8 : gI (sI S2 1 ca 0 2) 118 (x + 3) 0 = nI (tE T L f) := by rw [gI_sI, if_neg (by omega)]; exact e8
        have b9 : gI (sI S2 1 ca 0 2) 119 (x + 3) 0 = nI m := by rw [gI_sI, if_neg (by omega)]; exact e9
        have b1 : gI (sI S2 1 ca 0 2) 1 ca 0 = nI 2 := by rw [gI_sI, if_pos ⟨rfl, rfl, rfl⟩]; rfl
        have c3 : kd (sI S2 1 ca 0 2) ca = 1 := c2
        generalize sI S2 1 ca 0 2 = S3 at *
        refine ⟨hC3.2.1.1, c_takeFirst (hi := 40) hC3 c3 hcx b8 hel (by omega) rfl (fun hn S4 hG4 d8 d4 => ⟨Or.inr rfl, h1 ?_ S4 (Gx_tr hG3 (Gx_sub hG4 (hsub _))) ?_ ?_ ⟨?_, fun _ => ?_, fun w => ?_⟩⟩) (fun hn S4 hG4 d7 => ⟨Or.inl rfl, h0 ?_ S4 (Gx_tr hG3 (Gx_sub hG4 (hsub _))) ?_⟩)⟩
        · unfold ck
          rw [if_neg n0, if_neg n1, if_pos i2, if_pos hn]
          omega
        · unfold cl
          rw [if_neg n0, if_neg n1, if_pos i2]
          exact d8
        · unfold cm
          rw [if_neg n0, if_neg n1, if_pos i2, hG4.2.2.2 _ _ _ (fun w => by rcases w with w | w; (have := w.2; omega); (have := w.2; omega))]
          exact b9
        · rw [hw, hG4.2.2.2 _ _ _ (fun w => by rcases w with w | w; (have := w.2; omega); (have := w.2; omega))]
          exact b1
        · exact d4
        · omega
        · unfold ck
          rw [if_neg n0, if_neg n1, if_pos i2, if_neg hn]
        · unfold cf
          rw [if_neg n0, if_neg n1, if_pos i2]
          exact d7
      · have no : ¬ (wIs T L f 3 ∧ m < 6) → wp_X7_takeClause_180 Q S2 := fun hn => by
          refine h0 ?_ S2 hG2' ?_
          · unfold ck
            rw [if_neg n0, if_neg n1, if_neg n2, if_neg hn]
          · unfold cf
            rw [if_neg n0, if_neg n1, if_neg n2, if_neg hn]
            exact e7
        refine c_says (w := 3) hC2 (by omega) hfl (fun i3 => ⟨fun z => absurd z (by decide), fun _ => ⟨k2, fun hc => no ?_, fun hc => ⟨c2, ?_⟩⟩⟩) (fun n3 => ⟨fun _ => no fun w => n3 w.1, fun z => absurd rfl z⟩)
        · rw [e9, li_6, nI_leI (by omega) (by omega)] at hc
          omega
        · -- part
          rw [e9, li_6, nI_leI (by omega) (by omega)] at hc
          have h3 : wIs T L f 3 ∧ m < 6 := ⟨i3, by omega⟩
          have hw : cwd T L f = 3 := by unfold cwd; rw [if_neg n0, if_neg n1, if_neg n2]
          rintro _ rfl
          refine ⟨k2, k2, ?_⟩
          rintro _ rfl
          have e9' : gI (sI S2 1 ca 0 3) 119 (x + 3) 0 = nI m := by rw [gI_sI, if_neg (by omega)]; exact e9
          rw [e9', nI_1]
          have hG3 : Gx (Pc x ca) S (sI (sI S2 1 ca 0 3) 119 (x + 3) 0 (nI (m + 1))) := Gx_tr hG2' (Gx_tr (Gx_sI (Or.inr rfl)) (Gx_sI (Or.inl ⟨rfl, by omega⟩)))
          have hC3 := CT_gx hG3 hPc h
          have b8 : gI (sI (sI S2 1 ca 0 3) 119 (x + 3) 0 (nI (m + 1))) 118 (x + 3) 0 = nI (tE T L f) := by rw [gI_sI, if_neg (by omega), gI_sI, if_neg (by omega)]; exact e8
          have b9 : gI (sI (sI S2 1 ca 0 3) 119 (x + 3) 0 (nI (m + 1))) 119 (x + 3) 0 = nI (m + 1) := by rw [gI_sI, if_pos ⟨rfl, rfl, rfl⟩]
          have b1 : gI (sI (sI S2 1 ca 0 3) 119 (x + 3) 0 (nI (m + 1))) 1 ca 0 = nI 3 := by rw [gI_sI, if_neg (by omega), gI_sI, if_pos ⟨rfl, rfl, rfl⟩]; rfl
          have c3 : kd (sI (sI S2 1 ca 0 3) 119 (x + 3) 0 (nI (m + 1))) ca = 1 := c2
          generalize sI (sI S2 1 ca 0 3) 119 (x + 3) 0 (nI (m + 1)) = S3 at *
          unfold ck at h1 h0
          unfold cf at h0
          rw [if_neg n0, if_neg n1, if_neg n2, if_pos h3] at h1
          rw [if_neg n0, if_neg n1, if_neg n2, if_pos h3, if_neg n0, if_neg n1, if_neg n2, if_pos h3] at h0
          refine ⟨hC3.2.1.1, c_takeWord hC3 c3 hcx b8 hel (fun o1 S4 hG4 d8 d2 d3 => ⟨fun z => absurd z (by decide), fun _ => ?_⟩) (fun o1 S4 hG4 d7 => ⟨fun _ => ⟨Or.inl rfl, ?_⟩, fun z => absurd rfl z⟩)⟩
          · have hG4' := Gx_tr hG3 (Gx_sub hG4 (hsub _))
            have hC4 := CT_gx hG4' hPc h
            have c4 : kd S4 ca = 1 := ((hG4.1 _).1).trans c3
            have hel1 := tE_le (T := T) hnl
            refine ⟨hC4.2.1.1, c_takeFirst (hi := 8) hC4 c4 hcx d8 hel1 (by omega) rfl (fun o2 S5 hG5 f8 f4 => ⟨fun z => absurd z (by decide), fun _ => ?_⟩) (fun o2 S5 hG5 f7 => ⟨fun _ => ⟨Or.inl rfl, ?_⟩, fun z => absurd rfl z⟩)⟩
            · have hG5' := Gx_tr hG4' (Gx_sub hG5 (hsub _))
              have hC5 := CT_gx hG5' hPc h
              have c5 : kd S5 ca = 1 := ((hG5.1 _).1).trans c4
              have hel2 := tE_le (T := T) (nF_le (T := T) hnl)
              refine ⟨hC5.2.1.1, c_takeSecond (hi := 9) hC5 c5 hcx f8 hel2 (by omega) rfl (fun o3 S6 hG6 g8 g5 => ⟨fun z => absurd z (by decide), fun _ => ⟨Or.inr rfl, ?_⟩⟩) (fun o3 S6 hG6 g7 => ⟨fun _ => ⟨Or.inl rfl, ?_⟩, fun z => absurd rfl z⟩)⟩
              · rw [if_pos o1, if_pos o2, if_pos o3] at h1
                have st6 : ∀ f a, ¬ Pn x f a → ¬ (a = ca ∧ f = 5) → gI S6 f a 0 = gI S5 f a 0 := fun f a w1 w2 => hG6.2.2.2 f a 0 (fun w => w.elim w1 w2)
                have st5 : ∀ f a, ¬ Pn x f a → ¬ (a = ca ∧ f = 4) → gI S5 f a 0 = gI S4 f a 0 := fun f a w1 w2 => hG5.2.2.2 f a 0 (fun w => w.elim w1 w2)
                have st4 : ∀ f a, ¬ Pn x f a → ¬ (a = ca ∧ (f = 2 ∨ f = 3)) → gI S4 f a 0 = gI S3 f a 0 := fun f a w1 w2 => hG4.2.2.2 f a 0 (fun w => w.elim w1 w2)
                refine h1 (by omega) S6 (Gx_tr hG5' (Gx_sub hG6 (hsub _))) ?_ ?_ ⟨?_, fun w => ?_, fun _ => ⟨?_, ?_, ?_, g5⟩⟩
                · unfold cl
                  rw [if_neg n0, if_neg n1, if_neg n2]
                  exact g8
                · unfold cm
                  rw [if_neg n0, if_neg n1, if_neg n2, st6 _ _ (fun w => by have := w.2; omega) (by omega), st5 _ _ (fun w => by have := w.2; omega) (by omega), st4 _ _ (fun w => by have := w.2; omega) (by omega)]
                  exact b9
                · rw [hw, st6 _ _ (fun w => by have := w.2; omega) (by omega), st5 _ _ (fun w => by have := w.2; omega) (by omega), st4 _ _ (fun w => by have := w.2; omega) (by omega)]
                  exact b1
                · omega
                · rw [st6 _ _ (fun w => by have := w.2; omega) (by omega), st5 _ _ (fun w => by have := w.2; omega) (by omega)]
                  exact d2
                · rw [st6 _ _ (fun w => by have := w.2; omega) (by omega), st5 _ _ (fun w => by have := w.2; omega) (by omega)]
                  exact d3
                · rw [st6 _ _ (fun w => by have := w.2; omega) (by omega)]
                  exact f4
              · rw [if_pos o1, if_pos o2, if_neg o3, if_pos o1, if_pos o2] at h0
                exact h0 rfl S6 (Gx_tr hG5' (Gx_sub hG6 (hsub _))) g7
            · rw [if_pos o1, if_neg o2, if_pos o1, if_neg o2] at h0
              exact h0 rfl S5 (Gx_tr hG4' (Gx_sub hG5 (hsub _))) f7
          · rw [if_neg o1, if_neg o1] at h0
            exact h0 rfl S4 (Gx_tr hG3 (Gx_sub hG4 (hsub _))) d7
end CRD
