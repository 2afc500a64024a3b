/-! ===== the class' reader: tokens, numbers ===== -/
section CTOK
variable {S S' : Hp} {x : Nat} {T : Nat → Nat} {L : Nat}
/-- what a call may change: the ints of the places of P -/
def Gx (P : Nat → Nat → Prop) (S S' : Hp) : Prop := (∀ a, kd S' a = kd S a ∧ ln S' a = ln S a) ∧ sz S' = sz S ∧ (∀ f a i, gR S' f a i = gR S f a i) ∧ ∀ f a i, ¬ P f a → gI S' f a i = gI S f a i
theorem Gx_rf {P : Nat → Nat → Prop} : Gx P S S := ⟨fun _ => ⟨rfl, rfl⟩, rfl, fun _ _ _ => rfl, fun _ _ _ _ => rfl⟩
theorem Gx_tr {P : Nat → Nat → Prop} {S'' : Hp} (h : Gx P S S') (h' : Gx P S' S'') : Gx P S S'' := ⟨fun a => ⟨(h'.1 a).1.trans (h.1 a).1, (h'.1 a).2.trans (h.1 a).2⟩, h'.2.1.trans h.2.1, fun f a i => (h'.2.2.1 f a i).trans (h.2.2.1 f a i), fun f a i hp => (h'.2.2.2 f a i hp).trans (h.2.2.2 f a i hp)⟩
theorem Gx_sub {P P' : Nat → Nat → Prop} (h : Gx P S S') (hs : ∀ f a, P f a → P' f a) : Gx P' S S' := ⟨h.1, h.2.1, h.2.2.1, fun f a i hp => h.2.2.2 f a i fun w => hp (hs f a w)⟩
theorem Gx_sI {P : Nat → Nat → Prop} {f a i : Nat} {v : Int32} (h : P f a) : Gx P S (sI S f a i v) := ⟨fun _ => ⟨rfl, rfl⟩, rfl, fun _ _ _ => rfl, fun f' a' i' hp => if_neg (fun (w : f' = f ∧ a' = a ∧ i' = i) => hp (by rw [w.1, w.2.1]; exact h))⟩
theorem Gx_Sc {P : Nat → Nat → Prop} (h : Gx P S S') (hp : ∀ f a, P f a → x + 3 ≤ a ∧ a ≤ x + 28) : Sc x S S' := ⟨h.1, h.2.1, h.2.2.1, fun a h1 _ f i => h.2.2.2 f a i fun w => h1 (hp f a w)⟩
def CT (S : Hp) (x : Nat) (T : Nat → Nat) (L : Nat) : Prop := (kd S (x + 1) = 11 ∧ AR S 161 (x + 1) (x + 2) 20 200) ∧ (kd S (x + 3) = 8 ∧ gR S 113 (x + 3) 0 = some (x + 1)) ∧ (gI S 162 (x + 1) 0 = nI L ∧ L ≤ 200 ∧ ∀ i, i < L → gI S 0 (x + 2) i = nI (T i) ∧ T i ≤ 255)
theorem CT_gx {P : Nat → Nat → Prop} (h : Gx P S S') (hp : ∀ f a, P f a → x + 3 ≤ a ∧ a ≤ x + 28) (hC : CT S x T L) : CT S' x T L := by
  obtain ⟨⟨a1, a2, a3, a4⟩, ⟨b1, b2⟩, c1, c2, c3⟩ := hC
  obtain ⟨hk, hs, hr, hi⟩ := h
  refine ⟨⟨((hk _).1).trans a1, (hr _ _ _).trans a2, ((hk _).1).trans a3, ((hk _).2).trans a4⟩, ⟨((hk _).1).trans b1, (hr _ _ _).trans b2⟩, ?_, c2, fun i hi' => ⟨?_, (c3 i hi').2⟩⟩
  · rw [hi _ _ _ (fun w => by have := hp _ _ w; omega)]
    exact c1
  · rw [hi _ _ _ (fun w => by have := hp _ _ w; omega)]
    exact (c3 i hi').1
theorem c_isSmallLetter {i : Nat} {Q : Int32 → Prop} (h : CT S x T L) (hi : i < 2 ^ 20) (h1 : i < L → isSm (T i) = true → Q 1) (h0 : ¬ (i < L ∧ isSm (T i) = true) → Q 0) : wp_X10_isSmallLetter (x + 1) (nI i) S Q := by
  obtain ⟨⟨a1, a2, a3, a4⟩, -, c1, c2, c3⟩ := h
  refine ⟨fun hc => absurd hc (nI_pos (by omega)), fun _ => ⟨a1, fun hc => ⟨Or.inl rfl, h0 ?_⟩, fun hc => ⟨a1, _, a2, a3, ?_, fun hd => ⟨Or.inl rfl, h0 ?_⟩, fun hd => ⟨a1, _, a2, a3, ?_, fun he => ⟨Or.inl rfl, h0 ?_⟩, fun he => ⟨Or.inr rfl, ?_⟩⟩⟩⟩⟩
  · rw [c1, nI_leI (by omega) (by omega)] at hc
    omega
  · rw [c1, nI_leI (by omega) (by omega)] at hc
    rw [a4]
    exact vp_li (by omega) (by omega)
  · rw [c1, nI_leI (by omega) (by omega)] at hc
    have := (c3 i (by omega)).2
    rw [nI_clamp (by omega), (c3 i (by omega)).1, li_97, nI_ltI (by omega) (by omega)] at hd
    rw [isSm_iff]
    omega
  · rw [c1, nI_leI (by omega) (by omega)] at hc
    rw [a4]
    exact vp_li (by omega) (by omega)
  · rw [c1, nI_leI (by omega) (by omega)] at hc
    have := (c3 i (by omega)).2
    rw [nI_clamp (by omega), (c3 i (by omega)).1, show (122 : Int32) = nI 122 from rfl, nI_ltI (by omega) (by omega)] at he
    rw [isSm_iff]
    omega
  · rw [c1, nI_leI (by omega) (by omega)] at hc
    have := (c3 i (by omega)).2
    rw [nI_clamp (by omega), (c3 i (by omega)).1, li_97, nI_ltI (by omega) (by omega)] at hd
    rw [nI_clamp (by omega), (c3 i (by omega)).1, show (122 : Int32) = nI 122 from rfl, nI_ltI (by omega) (by omega)] at he
    exact h1 (by omega) (isSm_iff.mpr (by omega))
theorem c_isDigit {i : Nat} {Q : Int32 → Prop} (h : CT S x T L) (hi : i < 2 ^ 20) (h1 : i < L → isDg (T i) = true → Q 1) (h0 : ¬ (i < L ∧ isDg (T i) = true) → Q 0) : wp_X10_isDigit (x + 1) (nI i) S Q := by
  obtain ⟨⟨a1, a2, a3, a4⟩, -, c1, c2, c3⟩ := h
  refine ⟨fun hc => absurd hc (nI_pos (by omega)), fun _ => ⟨a1, fun hc => ⟨Or.inl rfl, h0 ?_⟩, fun hc => ⟨a1, _, a2, a3, ?_, fun hd => ⟨Or.inl rfl, h0 ?_⟩, fun hd => ⟨a1, _, a2, a3, ?_, fun he => ⟨Or.inl rfl, h0 ?_⟩, fun he => ⟨Or.inr rfl, ?_⟩⟩⟩⟩⟩
  · rw [c1, nI_leI (by omega) (by omega)] at hc
    omega
  · rw [c1, nI_leI (by omega) (by omega)] at hc
    rw [a4]
    exact vp_li (by omega) (by omega)
  · rw [c1, nI_leI (by omega) (by omega)] at hc
    have := (c3 i (by omega)).2
    rw [nI_clamp (by omega), (c3 i (by omega)).1, li_48, nI_ltI (by omega) (by omega)] at hd
    rw [isDg_iff]
    omega
  · rw [c1, nI_leI (by omega) (by omega)] at hc
    rw [a4]
    exact vp_li (by omega) (by omega)
  · rw [c1, nI_leI (by omega) (by omega)] at hc
    have := (c3 i (by omega)).2
    rw [nI_clamp (by omega), (c3 i (by omega)).1, li_57, nI_ltI (by omega) (by omega)] at he
    rw [isDg_iff]
    omega
  · rw [c1, nI_leI (by omega) (by omega)] at hc
    have := (c3 i (by omega)).2
    rw [nI_clamp (by omega), (c3 i (by omega)).1, li_48, nI_ltI (by omega) (by omega)] at hd
    rw [nI_clamp (by omega), (c3 i (by omega)).1, li_57, nI_ltI (by omega) (by omega)] at he
    exact h1 (by omega) (isDg_iff.mpr (by omega))
theorem c_isSign {i c : Nat} {v : Int32} {Q : Int32 → Prop} (h : CT S x T L) (hi : i < 2 ^ 20) (hv : v = nI c) (hc2 : c ≤ 255) (h1 : i < L → T i = c → Q 1) (h0 : ¬ (i < L ∧ T i = c) → Q 0) : wp_X10_isSign (x + 1) (nI i) v S Q := by
  subst hv
  obtain ⟨⟨a1, a2, a3, a4⟩, -, c1, c2, c3⟩ := h
  refine ⟨fun hc => absurd hc (nI_pos (by omega)), fun _ => ⟨a1, fun hc => ⟨Or.inl rfl, h0 ?_⟩, fun hc => ⟨a1, _, a2, a3, ?_, fun hd => ⟨Or.inl rfl, h0 ?_⟩, fun hd => ⟨Or.inr rfl, ?_⟩⟩⟩⟩
  · rw [c1, nI_leI (by omega) (by omega)] at hc
    omega
  · rw [c1, nI_leI (by omega) (by omega)] at hc
    rw [a4]
    exact vp_li (by omega) (by omega)
  · rw [c1, nI_leI (by omega) (by omega)] at hc
    have := (c3 i (by omega)).2
    rw [nI_clamp (by omega), (c3 i (by omega)).1, nI_ne (by omega) (by omega)] at hd
    exact fun w => hd w.2
  · rw [c1, nI_leI (by omega) (by omega)] at hc
    have := (c3 i (by omega)).2
    rw [nI_clamp (by omega), (c3 i (by omega)).1, nI_eq (by omega) (by omega)] at hd
    exact h1 (by omega) hd
def tkK (T : Nat → Nat) (L f : Nat) : Int32 := if f < L then (if isSm (T f) = true then 1 else if isDg (T f) = true then 2 else 3) else 0
def Pt (x f a : Nat) : Prop := a = x + 3 ∧ (f = 116 ∨ f = 117 ∨ f = 118)
theorem Pt_in {f a : Nat} (h : Pt x f a) : x + 3 ≤ a ∧ a ≤ x + 28 := by
  have := h.1
  omega
theorem c_takeToken {Q : Hp → Prop} {b : Nat} (h : CT S x T L) (h8 : gI S 118 (x + 3) 0 = nI b) (hb : b ≤ L) (hQ : ∀ S', Gx (Pt x) S S' → gI S' 117 (x + 3) 0 = nI (tF T L b) → gI S' 118 (x + 3) 0 = nI (tE T L (tF T L b)) → gI S' 116 (x + 3) 0 = tkK T L (tF T L b) → Q S') : wp_X7_takeToken (x + 3) S Q := by
  obtain ⟨-, ⟨k8, r13⟩, -, hL, -⟩ := id h
  have hfl := tF_le (T := T) hb
  have g7 : ∀ {S' : Hp} {v : Int32}, Gx (Pt x) S S' → Gx (Pt x) S (sI S' 117 (x + 3) 0 v) := fun g => Gx_tr g (Gx_sI ⟨rfl, by omega⟩)
  have g8 : ∀ {S' : Hp} {v : Int32}, Gx (Pt x) S S' → Gx (Pt x) S (sI S' 118 (x + 3) 0 v) := fun g => Gx_tr g (Gx_sI ⟨rfl, by omega⟩)
  have g6 : ∀ {S' : Hp} {v : Int32}, Gx (Pt x) S S' → Gx (Pt x) S (sI S' 116 (x + 3) 0 v) := fun g => Gx_tr g (Gx_sI ⟨rfl, by omega⟩)
  have cx : ∀ {S' : Hp}, Gx (Pt x) S S' → CT S' x T L := fun g => CT_gx g (fun _ _ => Pt_in) h
  -- the rest of a token, by its first place
  have fin : ∀ (f : Nat) (S1 : Hp), f = tF T L b → Gx (Pt x) S S1 → gI S1 117 (x + 3) 0 = nI f → wp_X7_takeToken_51 Q (x + 3) S1 := by
    intro f S1 hf hG h7
    rw [← hf] at hQ hfl
    have hC1 := cx hG
    refine ⟨hC1.2.1.1, hC1.2.1.1, ?_⟩
    rintro _ rfl
    have hG3 := g8 (v := gI S1 117 (x + 3) 0) hG
    have a7 : gI (sI S1 118 (x + 3) 0 (gI S1 117 (x + 3) 0)) 117 (x + 3) 0 = nI f := by rw [gI_sI, if_neg (by omega)]; exact h7
    have a8 : gI (sI S1 118 (x + 3) 0 (gI S1 117 (x + 3) 0)) 118 (x + 3) 0 = nI f := by rw [gI_sI, if_pos ⟨rfl, rfl, rfl⟩]; exact h7
    generalize sI S1 118 (x + 3) 0 (gI S1 117 (x + 3) 0) = S3 at *
    have hC3 := cx hG3
    have c1 := hC3.2.2.1
    refine ⟨hC3.2.1.1, hC3.2.1.1, _, hC3.2.1.2, hC3.1.1, fun hc => ⟨hC3.2.1.1, hC3.2.1.1, _, hC3.2.1.2, hC3.1.1, ?_⟩, fun hc => ⟨hC3.2.1.1, ?_⟩⟩
    · rw [a7, c1, nI_ltI (by omega) (by omega)] at hc
      rw [a7]
      refine c_isSmallLetter hC3 (by omega) (fun _ hs => ⟨fun z => absurd z (by decide), fun _ => ⟨hC3.2.1.1, ?_⟩⟩) (fun hn => ⟨fun _ => ⟨hC3.2.1.1, hC3.2.1.1, _, hC3.2.1.2, hC3.1.1, ?_⟩, fun z => absurd rfl z⟩)
      · -- a word
        rintro _ rfl
        have et := tE_sm hc hs
        have ek : tkK T L f = 1 := by unfold tkK; rw [if_pos hc, if_pos hs]
        refine Lp_of (fun n y => ∃ i S4, i ≤ L ∧ n = L - i ∧ S4 = y ∧ rn isSm T L i = rn isSm T L f ∧ Gx (Pt x) S S4 ∧ gI S4 117 (x + 3) 0 = nI f ∧ gI S4 118 (x + 3) 0 = nI i ∧ gI S4 116 (x + 3) 0 = 1) (fun n y hy K hK => ?_) (n := L - f) ⟨f, _, by omega, rfl, rfl, rfl, g6 hG3, by rw [gI_sI, if_neg (by omega)]; exact a7, by rw [gI_sI, if_neg (by omega)]; exact a8, by rw [gI_sI, if_pos ⟨rfl, rfl, rfl⟩]⟩
        obtain ⟨i, S4, hi, rfl, rfl, hr, hG4, b7, b8, b6⟩ := hy
        have hC4 := cx hG4
        have ex : rn isSm T L i = i → wp_X7_takeToken_216 Q S4 := fun e => hQ S4 hG4 b7 (by rw [b8, et, ← hr, e]) (b6.trans ek.symm)
        refine ⟨hC4.2.1.1, hC4.2.1.1, _, hC4.2.1.2, hC4.1.1, fun hd => ex ?_, fun hd => ⟨hC4.2.1.1, hC4.2.1.1, _, hC4.2.1.2, hC4.1.1, ?_⟩⟩
        · rw [hC4.2.2.1, b8, nI_leI (by omega) (by omega)] at hd
          exact rn_end hd
        · rw [hC4.2.2.1, b8, nI_leI (by omega) (by omega)] at hd
          rw [b8]
          refine c_isSmallLetter hC4 (by omega) (fun hl hs' => ⟨fun z => absurd z (by decide), fun _ => ⟨hC4.2.1.1, hC4.2.1.1, ?_⟩⟩) (fun hn => ⟨fun _ => ex (rn_no fun w => hn ⟨by omega, w⟩), fun z => absurd rfl z⟩)
          rintro _ rfl
          rw [nI_1]
          exact hK _ (L - (i + 1)) (by omega) ⟨i + 1, _, by omega, rfl, rfl, by rw [← hr, rn_go hl hs'], g8 hG4, by rw [gI_sI, if_neg (by omega)]; exact b7, by rw [gI_sI, if_pos ⟨rfl, rfl, rfl⟩], by rw [gI_sI, if_neg (by omega)]; exact b6⟩
      · have hns : ¬ isSm (T f) = true := fun w => hn ⟨hc, w⟩
        refine c_isDigit hC3 (by omega) (fun _ hs => ⟨fun z => absurd z (by decide), fun _ => ⟨hC3.2.1.1, ?_⟩⟩) (fun hn2 => ⟨fun _ => ⟨hC3.2.1.1, ?_⟩, fun z => absurd rfl z⟩)
        · -- digits
          rintro _ rfl
          have et := tE_dg hc hs
          have ek : tkK T L f = 2 := by unfold tkK; rw [if_pos hc, if_neg hns, if_pos hs]
          refine Lp_of (fun n y => ∃ i S4, i ≤ L ∧ n = L - i ∧ S4 = y ∧ rn isDg T L i = rn isDg T L f ∧ Gx (Pt x) S S4 ∧ gI S4 117 (x + 3) 0 = nI f ∧ gI S4 118 (x + 3) 0 = nI i ∧ gI S4 116 (x + 3) 0 = 2) (fun n y hy K hK => ?_) (n := L - f) ⟨f, _, by omega, rfl, rfl, rfl, g6 hG3, by rw [gI_sI, if_neg (by omega)]; exact a7, by rw [gI_sI, if_neg (by omega)]; exact a8, by rw [gI_sI, if_pos ⟨rfl, rfl, rfl⟩]⟩
          obtain ⟨i, S4, hi, rfl, rfl, hr, hG4, b7, b8, b6⟩ := hy
          have hC4 := cx hG4
          have ex : rn isDg T L i = i → wp_X7_takeToken_216 Q S4 := fun e => hQ S4 hG4 b7 (by rw [b8, et, ← hr, e]) (b6.trans ek.symm)
          refine ⟨hC4.2.1.1, hC4.2.1.1, _, hC4.2.1.2, hC4.1.1, fun hd => ex ?_, fun hd => ⟨hC4.2.1.1, hC4.2.1.1, _, hC4.2.1.2, hC4.1.1, ?_⟩⟩
          · rw [hC4.2.2.1, b8, nI_leI (by omega) (by omega)] at hd
            exact rn_end hd
          · rw [hC4.2.2.1, b8, nI_leI (by omega) (by omega)] at hd
            rw [b8]
            refine c_isDigit hC4 (by omega) (fun hl hs' => ⟨fun z => absurd z (by decide), fun _ => ⟨hC4.2.1.1, hC4.2.1.1, ?_⟩⟩) (fun hn => ⟨fun _ => ex (rn_no fun w => hn ⟨by omega, w⟩), fun z => absurd rfl z⟩)
            rintro _ rfl
            rw [nI_1]
            exact hK _ (L - (i + 1)) (by omega) ⟨i + 1, _, by omega, rfl, rfl, by rw [← hr, rn_go hl hs'], g8 hG4, by rw [gI_sI, if_neg (by omega)]; exact b7, by rw [gI_sI, if_pos ⟨rfl, rfl, rfl⟩], by rw [gI_sI, if_neg (by omega)]; exact b6⟩
        · have hnd : ¬ isDg (T f) = true := fun w => hn2 ⟨hc, w⟩
          rintro _ rfl
          refine ⟨hC3.2.1.1, hC3.2.1.1, ?_⟩
          rintro _ rfl
          refine hQ _ (g8 (g6 hG3)) ?_ ?_ ?_
          · rw [gI_sI, if_neg (by omega), gI_sI, if_neg (by omega)]
            exact a7
          · rw [gI_sI, if_pos ⟨rfl, rfl, rfl⟩, gI_sI, if_neg (by omega), a8, nI_1, tE_ot hc hns hnd]
          · rw [gI_sI, if_neg (by omega), gI_sI, if_pos ⟨rfl, rfl, rfl⟩]
            unfold tkK
            rw [if_pos hc, if_neg hns, if_neg hnd]
    · rw [a7, c1, nI_ltI (by omega) (by omega)] at hc
      rintro _ rfl
      refine hQ _ (g6 hG3) ?_ ?_ ?_
      · rw [gI_sI, if_neg (by omega)]
        exact a7
      · rw [gI_sI, if_neg (by omega), a8, tE_end (by omega)]
      · rw [gI_sI, if_pos ⟨rfl, rfl, rfl⟩]
        unfold tkK
        rw [if_neg hc]
  refine ⟨k8, k8, ?_⟩
  rintro _ rfl
  rw [h8]
  refine Lp_of (fun n y => ∃ i S4, i ≤ L ∧ n = L - i ∧ S4 = y ∧ rn isSp T L i = rn isSp T L b ∧ Gx (Pt x) S S4 ∧ gI S4 117 (x + 3) 0 = nI i) (fun n y hy K hK => ?_) (n := L - b) ⟨b, _, hb, rfl, rfl, rfl, g7 Gx_rf, by rw [gI_sI, if_pos ⟨rfl, rfl, rfl⟩]⟩
  obtain ⟨i, S4, hi, rfl, rfl, hr, hG4, b7⟩ := hy
  have hC4 := cx hG4
  have ex : rn isSp T L i = i → wp_X7_takeToken_51 Q (x + 3) S4 := fun e => fin i S4 (by unfold tF; rw [← hr, e]) hG4 b7
  refine ⟨hC4.2.1.1, hC4.2.1.1, _, hC4.2.1.2, hC4.1.1, fun hd => ex ?_, fun hd => ⟨hC4.2.1.1, hC4.2.1.1, _, hC4.2.1.2, hC4.1.1, ?_⟩⟩
  · rw [hC4.2.2.1, b7, nI_leI (by omega) (by omega)] at hd
    exact rn_end hd
  · rw [hC4.2.2.1, b7, nI_leI (by omega) (by omega)] at hd
    rw [b7]
    refine c_isSign (c := 32) hC4 (by omega) rfl (by omega) (fun hl hs' => ⟨fun z => absurd z (by decide), fun _ => ⟨hC4.2.1.1, hC4.2.1.1, ?_⟩⟩) (fun hn => ⟨fun _ => ex (rn_no fun w => hn ⟨by omega, isSp_iff.mp w⟩), fun z => absurd rfl z⟩)
    rintro _ rfl
    rw [nI_1]
    exact hK _ (L - (i + 1)) (by omega) ⟨i + 1, _, by omega, rfl, rfl, by rw [← hr, rn_go hl (isSp_iff.mpr hs')], g7 hG4, by rw [gI_sI, if_pos ⟨rfl, rfl, rfl⟩]⟩
def Pn (x f a : Nat) : Prop := a = x + 3 ∧ (f = 116 ∨ f = 117 ∨ f = 118 ∨ f = 120)
theorem Pn_in {f a : Nat} (h : Pn x f a) : x + 3 ≤ a ∧ a ≤ x + 28 := by
  have := h.1
  omega
theorem c_takeNumber {Q : Int32 → Hp → Prop} {b hi : Nat} {v : Int32} (h : CT S x T L) (h8 : gI S 118 (x + 3) 0 = nI b) (hb : b ≤ L) (hhi : hi ≤ 40) (hv : v = nI hi)
    (h1 : nmOk T L (tF T L b) hi → ∀ S', Gx (Pn x) S S' → gI S' 118 (x + 3) 0 = nI (tE T L (tF T L b)) → gI S' 120 (x + 3) 0 = nI (vl T L (tF T L b)) → Q 1 S')
    (h0 : ¬ nmOk T L (tF T L b) hi → ∀ S', Gx (Pn x) S S' → gI S' 117 (x + 3) 0 = nI (tF T L b) → Q 0 S') : wp_X7_takeNumber (x + 3) v S Q := by
  subst hv
  obtain ⟨-, ⟨k8, r13⟩, -, hL, -⟩ := id h
  have hfl := tF_le (T := T) hb
  refine ⟨k8, c_takeToken h h8 hb fun S2 hG2 e7 e8 e6 => ?_⟩
  generalize tF T L b = f at *
  have hG2' : Gx (Pn x) S S2 := Gx_sub hG2 (fun f a w => ⟨w.1, by have := w.2; omega⟩)
  have hC2 := CT_gx hG2' (fun _ _ => Pn_in) h
  have heg := tE_ge (T := T) (L := L) (f := f)
  have hel := tE_le (T := T) hfl
  refine ⟨hC2.2.1.1, ?_⟩
  rintro _ rfl
  have hG3 : Gx (Pn x) S (sI S2 120 (x + 3) 0 0) := Gx_tr hG2' (Gx_sI ⟨rfl, by omega⟩)
  have a7 : gI (sI S2 120 (x + 3) 0 0) 117 (x + 3) 0 = nI f := by rw [gI_sI, if_neg (by omega)]; exact e7
  have a8 : gI (sI S2 120 (x + 3) 0 0) 118 (x + 3) 0 = nI (tE T L f) := by rw [gI_sI, if_neg (by omega)]; exact e8
  have a6 : gI (sI S2 120 (x + 3) 0 0) 116 (x + 3) 0 = tkK T L f := by rw [gI_sI, if_neg (by omega)]; exact e6
  have a0 : gI (sI S2 120 (x + 3) 0 0) 120 (x + 3) 0 = nI 0 := by rw [gI_sI, if_pos ⟨rfl, rfl, rfl⟩]; rfl
  generalize sI S2 120 (x + 3) 0 0 = S3 at *
  have hC3 := CT_gx hG3 (fun _ _ => Pn_in) h
  have k3 := hC3.2.1.1
  have hkk : tkK T L f = 2 ↔ f < L ∧ isDg (T f) = true := by
    unfold tkK
    by_cases c1 : f < L
    · rw [if_pos c1]
      by_cases c2 : isSm (T f) = true
      · rw [if_pos c2]
        refine ⟨fun w => absurd w (by decide), fun w => ?_⟩
        have := isSm_iff.mp c2
        have := isDg_iff.mp w.2
        omega
      · rw [if_neg c2]
        by_cases c3 : isDg (T f) = true
        · rw [if_pos c3]
          exact ⟨fun _ => ⟨c1, c3⟩, fun _ => rfl⟩
        · rw [if_neg c3]
          exact ⟨fun w => absurd w (by decide), fun w => absurd w.2 c3⟩
    · rw [if_neg c1]
      exact ⟨fun w => absurd w (by decide), fun w => absurd w.1 c1⟩
  refine ⟨k3, fun hc => h0 ?_ S3 hG3 a7, fun hc => ⟨k3, k3, fun hd => ⟨k3, ?_⟩, fun hd => h0 ?_ S3 hG3 a7⟩⟩
  · rw [a6] at hc
    exact fun w => hc (hkk.mpr ⟨w.1.1, w.1.2.1⟩)
  · rw [a6] at hc
    obtain ⟨hfL, hdg⟩ := hkk.mp hc
    rw [a8, a7, pk_sub heg, li_2, nI_leI (by omega) (by omega)] at hd
    rintro _ rfl
    rw [a7]
    have hal : ∀ i, f ≤ i → i < f + (tE T L f - f) → isDg (T i) = true := fun i i1 i2 => tE_alld hfL hdg i1 (by omega)
    refine Lp_of (fun n y => ∃ i S4, i ≤ tE T L f - f ∧ n = tE T L f - f - i ∧ y = (nI (f + i), S4) ∧ Gx (Pn x) S S4 ∧ gI S4 117 (x + 3) 0 = nI f ∧ gI S4 118 (x + 3) 0 = nI (tE T L f) ∧ gI S4 120 (x + 3) 0 = nI (vlF T f i)) (fun n y hy K hK => ?_) (n := tE T L f - f) (x := (nI f, S3)) ⟨0, S3, by omega, rfl, rfl, hG3, a7, a8, a0⟩
    obtain ⟨i, S4, hi4, rfl, rfl, hG4, b7, b8, b0⟩ := hy
    have hC4 := CT_gx hG4 (fun _ _ => Pn_in) h
    have k4 := hC4.2.1.1
    have hvi := (vlF_le i (by omega) (fun j j1 j2 => hal j j1 (by omega))).1
    refine ⟨k4, fun he => ⟨k4, ?_⟩, fun he => ⟨k4, k4, _, hC4.2.1.2, hC4.1.1, ?_⟩⟩
    · dsimp only at he ⊢
      rw [b8, nI_leI (by omega) (by omega)] at he
      obtain rfl : i = tE T L f - f := by omega
      have ev : vlF T f (tE T L f - f) = vl T L f := rfl
      rw [ev] at b0 hvi
      rw [b0]
      refine c_withinB (a := 1) (b := hi) rfl (by rw [nI_toInt (by omega)]) (by omega) (fun j j1 j2 hx => ⟨Or.inr rfl, h1 ?_ S4 hG4 b8 b0⟩) (fun hn => ⟨Or.inl rfl, h0 (fun w => hn ?_) S4 hG4 b7⟩)
      · obtain rfl : vl T L f = j := nI_inj (by omega) (by omega) hx
        exact ⟨⟨hfL, hdg, hd⟩, j1, j2⟩
      · rw [nI_toInt (by omega)]
        omega
    · dsimp only at he ⊢
      rw [b8, nI_leI (by omega) (by omega)] at he
      have hdi := hal (f + i) (by omega) (by omega)
      have hdi' := isDg_iff.mp hdi
      refine c_isDigit hC4 (by omega) (fun hl _ => ⟨fun z => absurd z (by decide), fun _ => ⟨k4, _, hC4.2.1.2, hC4.1.1, _, hC4.1.2.1, hC4.1.2.2.1, ?_, k4, ?_⟩⟩) (fun hn => absurd ⟨by omega, hdi⟩ hn)
      · rw [hC4.1.2.2.2]
        exact vp_li (by omega) (by omega)
      · rintro _ rfl _ rfl
        rw [b0, nI_clamp (by omega), (hC4.2.2.2.2 (f + i) hl).1, li_10, li_48, pk_mul, pk_sub (by omega), nI_add, nI_1]
        have ee : vlF T f i * 10 + (T (f + i) - 48) = vlF T f (i + 1) := by
          rw [vlF]
          omega
        rw [ee]
        exact hK _ (tE T L f - f - (i + 1)) (by omega) ⟨i + 1, _, by omega, rfl, rfl, Gx_tr hG4 (Gx_sI ⟨rfl, by omega⟩), by rw [gI_sI, if_neg (by omega)]; exact b7, by rw [gI_sI, if_neg (by omega)]; exact b8, by rw [gI_sI, if_pos ⟨rfl, rfl, rfl⟩]⟩
  · rw [a8, a7, pk_sub heg, li_2, nI_leI (by omega) (by omega)] at hd
    exact fun w => hd w.1.2.2
end CTOK
