/-! ===== the class' state and the calls' state ===== -/
def CS (S : Hp) (x : Nat) (σ : Sg) : Prop := CK S x ∧ ((∀ a, sz S ≤ a → kd S a = 0) ∧ x + 111 ≤ sz S) ∧ (gI S 162 (x + 1) 0 = nI σ.2.2.2 ∧ ∀ i, i < σ.2.2.2 → gI S 0 (x + 2) i = nI (σ.2.2.1 i)) ∧ (∀ j, j < 8 → gI S 134 (x + 55 + 6 * j) 0 = 0 ∨ gI S 134 (x + 55 + 6 * j) 0 = 1) ∧ ∃ (bo nx : Nat) (wd : Nat → Prop), (gR S 183 x 0 = some bo ∧ (x + 111 ≤ bo ∨ bo = x + 49)) ∧ (nx < 8 ∧ gI S 146 (x + 53) 0 = nI nx ∧ gI S 147 (x + 53) 0 = nI σ.2.1.length ∧ σ.2.1.length ≤ 8) ∧ (∀ a, wd a → kd S a = 20) ∧ LineAt S wd (x + 111) (x + 29) σ.1 ∧ BoxAt S wd (x + 111) bo σ.1 ∧ URel x wd σ.2.1 nx S
theorem URel_take {x : Nat} {wd : Nat → Prop} : ∀ (n : Nat) (us : List (Nat → Nat)) (nx : Nat) (S : Hp), URel x wd us nx S → URel x wd (us.take n) nx S
  | 0, us, _, _, _ => by
    rw [List.take_zero]
    exact trivial
  | n + 1, [], _, _, _ => by
    rw [List.take_nil]
    exact trivial
  | n + 1, u :: us, nx, S, h => by
    rw [List.take_succ_cons]
    exact ⟨h.1, h.2.1, URel_take n us _ _ h.2.2⟩
section KEEP
variable {S S2 : Hp} {x nx bo u : Nat} {r : Option Nat} {wd : Nat → Prop} {σ : Sg}
theorem keep_kd : kd (keepH S x nx bo u r) = kd S := by cases r <;> rfl
theorem keep_ln : ln (keepH S x nx bo u r) = ln S := by cases r <;> rfl
theorem keep_sz : sz (keepH S x nx bo u r) = sz S := by cases r <;> rfl
theorem keep_fr (h1 : nx < 8) : Fr (fun a => a ≠ x + 53 ∧ ¬ (x + 55 + 6 * nx ≤ a ∧ a ≤ x + 60 + 6 * nx)) S (keepH S x nx bo u r) := by
  refine ⟨fun a _ => ⟨by rw [keep_kd], by rw [keep_ln]⟩, fun a ha f i => ?_⟩
  cases r with
  | none =>
    refine ⟨?_, ?_⟩
    · show gI (sI (sI _ 146 (x + 53) 0 _) 147 (x + 53) 0 _) f a i = _
      rw [gI_sI, if_neg (by omega), gI_sI, if_neg (by omega), gI_sR, gI_sR, cpL_gI (by omega)]
    · show gR (sI (sI (sR (sR (cpL S (x + 56 + 6 * nx) (x + 29)) 130 (x + 55 + 6 * nx) 0 (some bo)) 131 (x + 55 + 6 * nx) 0 none) 146 (x + 53) 0 _) 147 (x + 53) 0 _) f a i = _
      rw [gR_sI, gR_sI, gR_sR, if_neg (by omega), gR_sR, if_neg (by omega), cpL_gR (by omega)]
  | some pa =>
    refine ⟨?_, ?_⟩
    · show gI (sI (sI (sI (sI (cpA (sR (sR (cpL S (x + 56 + 6 * nx) (x + 29)) 130 (x + 55 + 6 * nx) 0 (some bo)) 131 (x + 55 + 6 * nx) 0 (some pa)) (pa + 2) (x + 60 + 6 * nx) 40) 133 (x + 55 + 6 * nx) 0 (gI S 67 pa 0)) 134 (x + 55 + 6 * nx) 0 (gI S 68 pa 0)) 146 (x + 53) 0 _) 147 (x + 53) 0 _) f a i = _
      rw [gI_sI, if_neg (by omega), gI_sI, if_neg (by omega), gI_sI, if_neg (by omega), gI_sI, if_neg (by omega), gI_cpA, if_neg (by omega), gI_sR, gI_sR, cpL_gI (by omega)]
    · show gR (sI (sI (sI (sI (cpA (sR (sR (cpL S (x + 56 + 6 * nx) (x + 29)) 130 (x + 55 + 6 * nx) 0 (some bo)) 131 (x + 55 + 6 * nx) 0 (some pa)) (pa + 2) (x + 60 + 6 * nx) 40) 133 (x + 55 + 6 * nx) 0 (gI S 67 pa 0)) 134 (x + 55 + 6 * nx) 0 (gI S 68 pa 0)) 146 (x + 53) 0 _) 147 (x + 53) 0 _) f a i = _
      rw [gR_sI, gR_sI, gR_sI, gR_sI, gR_cpA, gR_sR, if_neg (by omega), gR_sR, if_neg (by omega), cpL_gR (by omega)]
theorem keep_130 : gR (keepH S x nx bo u r) 130 (x + 55 + 6 * nx) 0 = some bo ∧ gR (keepH S x nx bo u r) 131 (x + 55 + 6 * nx) 0 = r := by
  cases r with
  | none =>
    show gR (sI (sI (sR (sR (cpL S (x + 56 + 6 * nx) (x + 29)) 130 (x + 55 + 6 * nx) 0 (some bo)) 131 (x + 55 + 6 * nx) 0 none) 146 (x + 53) 0 _) 147 (x + 53) 0 _) 130 _ 0 = _ ∧ gR (sI (sI (sR (sR (cpL S (x + 56 + 6 * nx) (x + 29)) 130 (x + 55 + 6 * nx) 0 (some bo)) 131 (x + 55 + 6 * nx) 0 none) 146 (x + 53) 0 _) 147 (x + 53) 0 _) 131 _ 0 = _
    simp [gR_sI, gR_sR]
  | some pa =>
    show gR (sI (sI (sI (sI (cpA (sR (sR (cpL S (x + 56 + 6 * nx) (x + 29)) 130 (x + 55 + 6 * nx) 0 (some bo)) 131 (x + 55 + 6 * nx) 0 (some pa)) (pa + 2) (x + 60 + 6 * nx) 40) 133 (x + 55 + 6 * nx) 0 (gI S 67 pa 0)) 134 (x + 55 + 6 * nx) 0 (gI S 68 pa 0)) 146 (x + 53) 0 _) 147 (x + 53) 0 _) 130 _ 0 = _ ∧ gR (sI (sI (sI (sI (cpA (sR (sR (cpL S (x + 56 + 6 * nx) (x + 29)) 130 (x + 55 + 6 * nx) 0 (some bo)) 131 (x + 55 + 6 * nx) 0 (some pa)) (pa + 2) (x + 60 + 6 * nx) 40) 133 (x + 55 + 6 * nx) 0 (gI S 67 pa 0)) 134 (x + 55 + 6 * nx) 0 (gI S 68 pa 0)) 146 (x + 53) 0 _) 147 (x + 53) 0 _) 131 _ 0 = _
    simp [gR_sI, gR_sR, gR_cpA]
theorem keep_pa {pa : Nat} (hp : x + 111 ≤ pa) (h1 : nx < 8) : gI (keepH S x nx bo u (some pa)) 133 (x + 55 + 6 * nx) 0 = gI S 67 pa 0 ∧ gI (keepH S x nx bo u (some pa)) 134 (x + 55 + 6 * nx) 0 = gI S 68 pa 0 ∧ ∀ i, i < 40 → gI (keepH S x nx bo u (some pa)) 0 (x + 60 + 6 * nx) i = gI S 0 (pa + 2) i := by
  have e : keepH S x nx bo u (some pa) = sI (sI (sI (sI (cpA (sR (sR (cpL S (x + 56 + 6 * nx) (x + 29)) 130 (x + 55 + 6 * nx) 0 (some bo)) 131 (x + 55 + 6 * nx) 0 (some pa)) (pa + 2) (x + 60 + 6 * nx) 40) 133 (x + 55 + 6 * nx) 0 (gI S 67 pa 0)) 134 (x + 55 + 6 * nx) 0 (gI S 68 pa 0)) 146 (x + 53) 0 (nI ((nx + 1) % 8))) 147 (x + 53) 0 (nI (min (u + 1) 8)) := rfl
  rw [e]
  refine ⟨?_, ?_, fun i hi => ?_⟩
  · rw [gI_sI, if_neg (by omega), gI_sI, if_neg (by omega), gI_sI, if_neg (by omega), gI_sI, if_pos ⟨rfl, rfl, rfl⟩]
  · rw [gI_sI, if_neg (by omega), gI_sI, if_neg (by omega), gI_sI, if_pos ⟨rfl, rfl, rfl⟩]
  · rw [gI_sI, if_neg (by omega), gI_sI, if_neg (by omega), gI_sI, if_neg (by omega), gI_sI, if_neg (by omega), gI_cpA, if_pos ⟨rfl, rfl, hi⟩, gI_sR, gI_sR, cpL_gI (by omega)]
theorem keep_no (h1 : nx < 8) : gI (keepH S x nx bo u none) 134 (x + 55 + 6 * nx) 0 = gI S 134 (x + 55 + 6 * nx) 0 := by
  show gI (sI (sI (sR (sR (cpL S (x + 56 + 6 * nx) (x + 29)) 130 (x + 55 + 6 * nx) 0 (some bo)) 131 (x + 55 + 6 * nx) 0 none) 146 (x + 53) 0 _) 147 (x + 53) 0 _) 134 _ 0 = _
  rw [gI_sI, if_neg (by omega), gI_sI, if_neg (by omega), gI_sR, gI_sR, cpL_gI (by omega)]
theorem keep_cnt : gI (keepH S x nx bo u r) 146 (x + 53) 0 = nI ((nx + 1) % 8) ∧ gI (keepH S x nx bo u r) 147 (x + 53) 0 = nI (min (u + 1) 8) := by
  unfold keepH
  simp [gI_sI]
theorem keep_line {q : Nat → Nat} (h1 : nx < 8) (h6 : q 2 ≤ 6) (h : LineAt S wd (x + 111) (x + 29) q) : LineAt (keepH S x nx bo u r) wd (x + 111) (x + 56 + 6 * nx) q := by
  have h0 := cpL_line (to := x + 56 + 6 * nx) (fr := x + 29) (lo := x + 111) (by omega) h6 h
  have hF : Fr (fun a => a ≠ x + 53 ∧ a ≠ x + 55 + 6 * nx ∧ a ≠ x + 60 + 6 * nx) (cpL S (x + 56 + 6 * nx) (x + 29)) (keepH S x nx bo u r) := by
    cases r with
    | none => exact Fr_tr (Fr_sR (fun w => w.2.1 rfl)) (Fr_tr (Fr_sR (fun w => w.2.1 rfl)) (Fr_tr (Fr_sI (fun w => w.1 rfl)) (Fr_sI (fun w => w.1 rfl))))
    | some pa => exact Fr_tr (Fr_sR (fun w => w.2.1 rfl)) (Fr_tr (Fr_sR (fun w => w.2.1 rfl)) (Fr_tr (Fr_cpA (fun w => w.2.2 rfl)) (Fr_tr (Fr_sI (fun w => w.2.1 rfl)) (Fr_tr (Fr_sI (fun w => w.2.1 rfl)) (Fr_tr (Fr_sI (fun w => w.1 rfl)) (Fr_sI (fun w => w.1 rfl)))))))
  exact LineAt_fr hF (fun a ha _ _ => by omega) (fun _ w => w) (by omega) (by omega) h0
/-- behind keep and one change: the row now is the latest of those before -/
theorem keep_rel (hnx : nx < 8) (h6 : σ.1 2 ≤ 6) (hbo : x + 111 ≤ bo ∨ bo = x + 49) (hL : LineAt S wd (x + 111) (x + 29) σ.1) (hB : BoxAt S wd (x + 111) bo σ.1) (hU : URel x wd σ.2.1 nx S) (h01 : ∀ j, j < 8 → gI S 134 (x + 55 + 6 * j) 0 = 0 ∨ gI S 134 (x + 55 + 6 * j) 0 = 1)
    (hr : r = none ∨ ∃ t, t < σ.1 94 ∧ x + 111 ≤ bo ∧ r = some (bo + 4 + 3 * t)) (hp01 : ∀ pa, r = some pa → gI S 68 pa 0 = 0 ∨ gI S 68 pa 0 = 1)
    (hk : ∀ a, kd S a ≠ 0 → kd S2 a = kd S a ∧ ln S2 a = ln S a)
    (hR : ∀ a, (x + 111 ≤ a ∨ (x + 49 ≤ a ∧ a ≤ x + 52) ∨ (x + 55 ≤ a ∧ a ≤ x + 102)) → kd S a ≠ 0 → ∀ f i, gR S2 f a i = gR (keepH S x nx bo u r) f a i)
    (hI : ∀ a, (x + 111 ≤ a ∨ (x + 49 ≤ a ∧ a ≤ x + 52) ∨ (x + 55 ≤ a ∧ a ≤ x + 102)) → kd S a ≠ 0 → ∀ f i, (∀ pa, r = some pa → ¬ (a = pa ∧ i = 0 ∧ (f = 67 ∨ f = 68)) ∧ ¬ (a = pa + 2 ∧ f = 0 ∧ i < 40)) → gI S2 f a i = gI (keepH S x nx bo u r) f a i)
    (hwk : ∀ a, wd a → kd S a = 20) (hst : ∀ j, j < 8 → kd S (x + 55 + 6 * j) = 9 ∧ kd S (x + 56 + 6 * j) = 3 ∧ kd S (x + 57 + 6 * j) = 23 ∧ kd S (x + 60 + 6 * j) = 20) : URel x wd ((σ.1 :: σ.2.1).take 8) ((nx + 1) % 8) S2 := by
  rw [List.take_succ_cons]
  have e8 : ((nx + 1) % 8 + 7) % 8 = nx := by omega
  obtain ⟨k9, k3, k23, k20⟩ := hst nx hnx
  have hsub : ∀ pa, r = some pa → x + 111 ≤ pa ∧ kd S pa = 5 ∧ kd S (pa + 2) = 20 ∧ ¬ wd (pa + 2) := by
    intro pa hpa
    rcases hr with hr | ⟨t, ht, hb, hr⟩
    · rw [hr] at hpa
      cases hpa
    · rw [hr] at hpa
      cases hpa
      obtain ⟨⟨-, g2, -, g4, g5⟩, -⟩ := hB.2.2.2.2.2.2 t ht
      exact ⟨by omega, g2, by rw [show bo + 4 + 3 * t + 2 = bo + 6 + 3 * t by omega]; exact g4.2.1, by rw [show bo + 4 + 3 * t + 2 = bo + 6 + 3 * t by omega]; exact g5⟩
  have hfr := keep_fr (S := S) (x := x) (nx := nx) (bo := bo) (u := u) (r := r) hnx
  have s130 : gR S2 130 (x + 55 + 6 * nx) 0 = some bo := (hR _ (by omega) (by rw [k9]; decide) 130 0).trans keep_130.1
  have s131 : gR S2 131 (x + 55 + 6 * nx) 0 = r := (hR _ (by omega) (by rw [k9]; decide) 131 0).trans keep_130.2
  -- the heap with the packet put back is the one ahead of the call
  have hT : Fr (fun a => kd S a ≠ 0 ∧ (x + 111 ≤ a ∨ (x + 49 ≤ a ∧ a ≤ x + 52) ∨ (x + 55 ≤ a ∧ a ≤ x + 102 ∧ ¬ (x + 55 + 6 * nx ≤ a ∧ a ≤ x + 60 + 6 * nx)))) S (rst S2 (x + 55 + 6 * nx)) := by
    unfold rst
    rw [s131]
    cases hrr : r with
    | none =>
      refine ⟨hk, fun a ha f i => ⟨?_, ?_⟩⟩
      · rw [hI a (by omega) ha.1 f i (fun pa hpa => by rw [hrr] at hpa; cases hpa)]
        exact (hfr.2 a (by omega) f i).1
      · rw [hR a (by omega) ha.1 f i]
        exact (hfr.2 a (by omega) f i).2
    | some pa =>
      obtain ⟨p1, p2, p3, -⟩ := hsub pa hrr
      obtain ⟨q1, q2, q3⟩ := keep_pa (S := S) (bo := bo) (u := u) p1 hnx
      rw [← hrr] at q1 q2 q3
      dsimp only
      refine ⟨hk, fun a ha f i => ⟨?_, ?_⟩⟩
      · rw [gI_sI, gI_sI, gI_cpA]
        by_cases c1 : f = 68 ∧ a = pa ∧ i = 0
        · rw [if_pos c1, hI _ (by omega) (by rw [k9]; decide) 134 0 (fun pb hpb => by rw [hrr] at hpb; cases hpb; exact ⟨by omega, by omega⟩), q2, c1.1, c1.2.1, c1.2.2]
        · rw [if_neg c1]
          by_cases c2 : f = 67 ∧ a = pa ∧ i = 0
          · rw [if_pos c2, hI _ (by omega) (by rw [k9]; decide) 133 0 (fun pb hpb => by rw [hrr] at hpb; cases hpb; exact ⟨by omega, by omega⟩), q1, c2.1, c2.2.1, c2.2.2]
          · rw [if_neg c2]
            by_cases c3 : f = 0 ∧ a = pa + 2 ∧ i < 40
            · rw [if_pos c3, show x + 55 + 6 * nx + 5 = x + 60 + 6 * nx by omega, hI _ (by omega) (by rw [k20]; decide) 0 i (fun pb hpb => by rw [hrr] at hpb; cases hpb; exact ⟨by omega, by omega⟩), q3 i c3.2.2, c3.1, c3.2.1]
            · rw [if_neg c3, hI a (by omega) ha.1 f i (fun pb hpb => by rw [hrr] at hpb; cases hpb; exact ⟨by omega, by omega⟩)]
              exact (hfr.2 a (by omega) f i).1
      · show gR S2 f a i = _
        rw [hR a (by omega) ha.1 f i]
        exact (hfr.2 a (by omega) f i).2
  have hkT : ∀ a, kd (rst S2 (x + 55 + 6 * nx)) a = kd S2 a := fun a => by
    unfold rst
    split <;> rfl
  show (∃ b, _) ∧ _ ∧ URel x wd (σ.2.1.take 7) (((nx + 1) % 8 + 7) % 8) (rst S2 (x + 55 + 6 * (((nx + 1) % 8 + 7) % 8)))
  rw [e8]
  refine ⟨⟨bo, s130, hbo, ?_, ?_, ?_⟩, ?_, ?_⟩
  · -- the line
    have h0 := keep_line (S := S) (x := x) (nx := nx) (bo := bo) (u := u) (r := r) hnx h6 hL
    have hF : Fr (fun a => kd S a ≠ 0 ∧ (x + 111 ≤ a ∨ (x + 55 ≤ a ∧ a ≤ x + 102)) ∧ ∀ pa, r = some pa → a ≠ pa ∧ a ≠ pa + 2) (keepH S x nx bo u r) S2 := ⟨fun a ha => by rw [keep_kd] at ha ⊢; rw [keep_ln]; exact hk a ha, fun a ha f i => ⟨hI a (by omega) ha.1 f i (fun pa hpa => by have := ha.2.2 pa hpa; exact ⟨by omega, by omega⟩), hR a (by omega) ha.1 f i⟩⟩
    refine LineAt_fr hF (fun a ha hk0 hka => ⟨by rw [keep_kd] at hk0; exact hk0, Or.inl ha, fun pa hpa => ?_⟩) (fun _ w => w) ⟨by rw [k3]; decide, Or.inr (by omega), fun pa hpa => by have := hsub pa hpa; omega⟩ ⟨by rw [show x + 56 + 6 * nx + 1 = x + 57 + 6 * nx by omega, k23]; decide, Or.inr (by omega), fun pa hpa => by have := hsub pa hpa; omega⟩ h0
    obtain ⟨p1, p2, p3, p4⟩ := hsub pa hpa
    rw [keep_kd] at hka
    refine ⟨fun w => ?_, fun w => ?_⟩
    · rw [w, p2] at hka
      rcases hka with hka | hka
      · omega
      · exact absurd (hwk pa hka) (by rw [p2]; decide)
    · rw [w, p3] at hka
      rcases hka with hka | hka
      · omega
      · exact p4 hka
  · refine BoxAt_fr hT (fun a ha hk0 => ⟨hk0, Or.inl ha⟩) (fun t _ w => w) (fun a g1 g2 hk0 => ⟨hk0, ?_⟩) hB
    rcases hbo with hbo | hbo
    · exact Or.inl (by omega)
    · exact Or.inr (Or.inl (by omega))
  · rw [s131]
    exact hr
  · rw [hI _ (by omega) (by rw [k9]; decide) 134 0 (fun pb hpb => by have := hsub pb hpb; exact ⟨by omega, by omega⟩)]
    cases hrr : r with
    | none =>
      rw [keep_no hnx]
      exact h01 nx hnx
    | some pa =>
      rw [(keep_pa (hsub pa hrr).1 hnx).2.1]
      exact hp01 pa hrr
  · refine URel_fr (σ.2.1.take 7) nx S _ hT (fun a ha hk0 => ⟨hk0, Or.inl ha⟩) (fun a g1 g2 hk0 => ⟨hk0, Or.inr (Or.inl ⟨g1, g2⟩)⟩) (fun j hj => ?_) (fun _ w => w) (fun _ _ w => w) (URel_take 7 _ _ _ hU)
    rw [List.length_take] at hj
    have hm : (nx + 7 * (j + 1)) % 8 < 8 := Nat.mod_lt _ (by decide)
    have hne : (nx + 7 * (j + 1)) % 8 ≠ nx := by omega
    obtain ⟨g1, g2, g3, g4⟩ := hst _ hm
    generalize (nx + 7 * (j + 1)) % 8 = sj at hm hne g1 g2 g3 g4 ⊢
    exact ⟨⟨by rw [g1]; decide, by omega⟩, ⟨by rw [g2]; decide, by omega⟩, ⟨by rw [g3]; decide, by omega⟩, ⟨by rw [g4]; decide, by omega⟩⟩
end KEEP
