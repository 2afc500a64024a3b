/-! ===== the class: its cells ===== -/
/-- an array a cell names -/
abbrev AR (S : Hp) (f o a k n : Nat) : Prop := gR S f o 0 = some a ∧ kd S a = k ∧ ln S a = n
def CK (S : Hp) (x : Nat) : Prop :=
  (kd S x = 12 ∧ gR S 177 x 0 = some (x + 1) ∧ gR S 178 x 0 = some (x + 3) ∧ gR S 179 x 0 = some (x + 29) ∧ gR S 180 x 0 = some (x + 53) ∧ gR S 181 x 0 = some (x + 33) ∧ gR S 182 x 0 = some (x + 43)) ∧
  (kd S (x + 1) = 11 ∧ AR S 161 (x + 1) (x + 2) 20 200) ∧
  (kd S (x + 3) = 8 ∧ gR S 113 (x + 3) 0 = some (x + 1) ∧ AR S 114 (x + 3) (x + 4) 21 24 ∧ ∀ c, c < 24 → gR S 0 (x + 4) c = some (x + 5 + c) ∧ kd S (x + 5 + c) = 1) ∧
  (kd S (x + 29) = 3 ∧ AR S 33 (x + 29) (x + 30) 23 6) ∧
  (kd S (x + 33) = 7 ∧ AR S 97 (x + 33) (x + 34) 25 7 ∧ AR S 98 (x + 33) (x + 42) 20 6 ∧ ∀ i, i < 7 → gR S 0 (x + 34) i = some (x + 35 + i) ∧ kd S (x + 35 + i) = 20 ∧ ln S (x + 35 + i) = 41) ∧
  (kd S (x + 43) = 2 ∧ AR S 17 (x + 43) (x + 44) 20 8 ∧ AR S 18 (x + 43) (x + 45) 20 8 ∧ AR S 21 (x + 43) (x + 46) 20 8 ∧ AR S 22 (x + 43) (x + 47) 20 8 ∧ AR S 23 (x + 43) (x + 48) 20 8) ∧
  (kd S (x + 53) = 10 ∧ AR S 145 (x + 53) (x + 54) 24 8 ∧ ∀ j, j < 8 → gR S 0 (x + 54) j = some (x + 55 + 6 * j) ∧ kd S (x + 55 + 6 * j) = 9 ∧ gR S 129 (x + 55 + 6 * j) 0 = some (x + 56 + 6 * j) ∧ kd S (x + 56 + 6 * j) = 3 ∧ AR S 33 (x + 56 + 6 * j) (x + 57 + 6 * j) 23 6 ∧ AR S 132 (x + 55 + 6 * j) (x + 60 + 6 * j) 20 40)
def PartAt (S : Hp) (wd : Nat → Prop) (lo a l k g : Nat) (c : Nat → Nat) : Prop := lo ≤ a ∧ kd S a = 6 ∧ gI S 82 a 0 = nI k ∧ gI S 83 a 0 = nI g ∧ ∃ w, lo ≤ w ∧ wd w ∧ AR S 81 a w 20 l ∧ ∀ i, i < l → gI S 0 w i = nI (c i)
def LineAt (S : Hp) (wd : Nat → Prop) (lo la : Nat) (q : Nat → Nat) : Prop := (gI S 34 la 0 = nI (q 2) ∧ gI S 35 la 0 = nI (q 0) ∧ gI S 36 la 0 = nI (q 1)) ∧ (∀ p, p < 6 → ∃ a, gR S 0 (la + 1) p = some a ∧ kd S a = 6) ∧ ∀ p, p < q 2 → ∃ a, gR S 0 (la + 1) p = some a ∧ PartAt S wd lo a (q (3 + 15 * p)) (q (4 + 15 * p)) (q (5 + 15 * p)) (fun i => q (6 + 15 * p + i))
def BoxAt (S : Hp) (wd : Nat → Prop) (lo bo : Nat) (q : Nat → Nat) : Prop := (lo ≤ bo ∨ (q 93 = 0 ∧ q 94 = 0)) ∧ (kd S bo = 4 ∧ gI S 50 bo 0 = nI (q 93) ∧ gI S 53 bo 0 = nI (q 94) ∧ gI S 54 bo 0 = nI (q 95)) ∧ AR S 49 bo (bo + 1) 23 6 ∧ AR S 51 bo (bo + 2) 20 6 ∧ AR S 52 bo (bo + 3) 22 (q 94) ∧ (∀ p, p < q 93 → (∃ a, gR S 0 (bo + 1) p = some a ∧ lo ≤ a ∧ kd S a = 6 ∧ gI S 82 a 0 = nI (q (97 + 3 * p)) ∧ ∃ w, lo ≤ w ∧ AR S 81 a w 20 (q (96 + 3 * p))) ∧ gI S 0 (bo + 2) p = nI (q (98 + 3 * p))) ∧ ∀ t, t < q 94 → (gR S 0 (bo + 3) t = some (bo + 4 + 3 * t) ∧ kd S (bo + 4 + 3 * t) = 5 ∧ AR S 65 (bo + 4 + 3 * t) (bo + 5 + 3 * t) 20 40 ∧ AR S 66 (bo + 4 + 3 * t) (bo + 6 + 3 * t) 20 40 ∧ ¬ wd (bo + 6 + 3 * t)) ∧ gI S 67 (bo + 4 + 3 * t) 0 = nI (q (122 + t)) ∧ gI S 68 (bo + 4 + 3 * t) 0 = nI (q (114 + t)) ∧ ∀ i, i < q 95 → gI S 0 (bo + 5 + 3 * t) i = nI (q (130 + 40 * t + i)) ∧ gI S 0 (bo + 6 + 3 * t) i = nI (q (450 + 40 * t + i))
/-- the heap with the packet that a step names put back -/
def rst (S : Hp) (st : Nat) : Hp := match gR S 131 st 0 with
  | none => S
  | some pa => sI (sI (cpA S (st + 5) (pa + 2) 40) 67 pa 0 (gI S 133 st 0)) 68 pa 0 (gI S 134 st 0)
def URel (x : Nat) (wd : Nat → Prop) : List (Nat → Nat) → Nat → Hp → Prop
  | [], _, _ => True
  | u :: us, nx, S => (∃ bo, gR S 130 (x + 55 + 6 * ((nx + 7) % 8)) 0 = some bo ∧ (x + 111 ≤ bo ∨ bo = x + 49) ∧ LineAt S wd (x + 111) (x + 56 + 6 * ((nx + 7) % 8)) u ∧ BoxAt (rst S (x + 55 + 6 * ((nx + 7) % 8))) wd (x + 111) bo u ∧ (gR S 131 (x + 55 + 6 * ((nx + 7) % 8)) 0 = none ∨ ∃ t, t < u 94 ∧ x + 111 ≤ bo ∧ gR S 131 (x + 55 + 6 * ((nx + 7) % 8)) 0 = some (bo + 4 + 3 * t))) ∧ (gI S 134 (x + 55 + 6 * ((nx + 7) % 8)) 0 = 0 ∨ gI S 134 (x + 55 + 6 * ((nx + 7) % 8)) 0 = 1) ∧ URel x wd us ((nx + 7) % 8) (rst S (x + 55 + 6 * ((nx + 7) % 8)))
/-- what stays: kinds and lengths of all cells that there are, and all that lies in the cells of R -/
def Fr (R : Nat → Prop) (S S' : Hp) : Prop := (∀ a, kd S a ≠ 0 → kd S' a = kd S a ∧ ln S' a = ln S a) ∧ ∀ a, R a → ∀ f i, gI S' f a i = gI S f a i ∧ gR S' f a i = gR S f a i
theorem Fr_rf (R : Nat → Prop) (S : Hp) : Fr R S S := ⟨fun _ _ => ⟨rfl, rfl⟩, fun _ _ _ _ => ⟨rfl, rfl⟩⟩
theorem Fr_tr {R : Nat → Prop} {S S' S'' : Hp} (h : Fr R S S') (h' : Fr R S' S'') : Fr R S S'' := ⟨fun a ha => by
  obtain ⟨e1, e2⟩ := h.1 a ha
  obtain ⟨e3, e4⟩ := h'.1 a (by rw [e1]; exact ha)
  exact ⟨e3.trans e1, e4.trans e2⟩, fun a ha f i => ⟨((h'.2 a ha f i).1).trans (h.2 a ha f i).1, ((h'.2 a ha f i).2).trans (h.2 a ha f i).2⟩⟩
theorem Fr_sub {R R' : Nat → Prop} {S S' : Hp} (h : Fr R S S') (hs : ∀ a, R' a → R a) : Fr R' S S' := ⟨h.1, fun a ha => h.2 a (hs a ha)⟩
theorem Fr_sI {R : Nat → Prop} {S : Hp} {f a i : Nat} {v : Int32} (h : ¬ R a) : Fr R S (sI S f a i v) := ⟨fun _ _ => ⟨rfl, rfl⟩, fun b hb f' i' => ⟨if_neg (fun (w : f' = f ∧ b = a ∧ i' = i) => h (w.2.1 ▸ hb)), rfl⟩⟩
theorem Fr_sR {R : Nat → Prop} {S : Hp} {f a i : Nat} {v : Option Nat} (h : ¬ R a) : Fr R S (sR S f a i v) := ⟨fun _ _ => ⟨rfl, rfl⟩, fun b hb f' i' => ⟨rfl, if_neg (fun (w : f' = f ∧ b = a ∧ i' = i) => h (w.2.1 ▸ hb))⟩⟩
theorem Fr_cpA {R : Nat → Prop} {S : Hp} {a b n : Nat} (h : ¬ R b) : Fr R S (cpA S a b n) := ⟨fun _ _ => ⟨rfl, rfl⟩, fun c hc f' i' => ⟨if_neg (fun (w : f' = 0 ∧ c = b ∧ i' < n) => h (w.2.1 ▸ hc)), rfl⟩⟩
theorem Fr_nw {R : Nat → Prop} {S : Hp} {k n : Nat} (h : ¬ R (sz S)) (hz : kd S (sz S) = 0) : Fr R S (nw S k n) := ⟨fun a ha => by
  have hne : a ≠ sz S := fun w => ha (by rw [w]; exact hz)
  rw [kd_nw, ln_nw, if_neg hne, if_neg hne]
  exact ⟨rfl, rfl⟩, fun c hc f' i' => by
  have hne : c ≠ sz S := fun w => h (w ▸ hc)
  rw [gI_nw, gR_nw, if_neg hne, if_neg hne]
  exact ⟨rfl, rfl⟩⟩
theorem AR_fr {R : Nat → Prop} {S S' : Hp} {f o a k n : Nat} (hF : Fr R S S') (ho : R o) (hk : k ≠ 0) (h : AR S f o a k n) : AR S' f o a k n := by
  obtain ⟨h1, h2, h3⟩ := h
  obtain ⟨e1, e2⟩ := hF.1 a (by rw [h2]; exact hk)
  exact ⟨((hF.2 o ho f 0).2).trans h1, e1.trans h2, e2.trans h3⟩
theorem kd_fr {R : Nat → Prop} {S S' : Hp} {a k : Nat} (hF : Fr R S S') (hk : k ≠ 0) (h : kd S a = k) : kd S' a = k := ((hF.1 a (by rw [h]; exact hk)).1).trans h
theorem gI_fr {R : Nat → Prop} {S S' : Hp} {f a i : Nat} {v : Int32} (hF : Fr R S S') (ha : R a) (h : gI S f a i = v) : gI S' f a i = v := ((hF.2 a ha f i).1).trans h
theorem gR_fr {R : Nat → Prop} {S S' : Hp} {f a i : Nat} {v : Option Nat} (hF : Fr R S S') (ha : R a) (h : gR S f a i = v) : gR S' f a i = v := ((hF.2 a ha f i).2).trans h
section CFR
variable {R : Nat → Prop} {S S' : Hp} {wd wd' : Nat → Prop} {lo : Nat}
theorem PartAt_fr {a l k g : Nat} {c : Nat → Nat} (hF : Fr R S S') (hR : ∀ a, lo ≤ a → kd S a ≠ 0 → (kd S a = 6 ∨ wd a) → R a) (hw : ∀ a, wd a → wd' a) (h : PartAt S wd lo a l k g c) : PartAt S' wd' lo a l k g c := by
  obtain ⟨h0, h1, h2, h3, w, h4, h5, h6, h7⟩ := h
  have ra := hR _ h0 (by rw [h1]; decide) (Or.inl h1)
  exact ⟨h0, kd_fr hF (by decide) h1, gI_fr hF ra h2, gI_fr hF ra h3, w, h4, hw w h5, AR_fr hF ra (by decide) h6, fun i hi => gI_fr hF (hR _ h4 (by rw [h6.2.1]; decide) (Or.inr h5)) (h7 i hi)⟩
theorem LineAt_fr {la : Nat} {q : Nat → Nat} (hF : Fr R S S') (hR : ∀ a, lo ≤ a → kd S a ≠ 0 → (kd S a = 6 ∨ wd a) → R a) (hw : ∀ a, wd a → wd' a) (h0 : R la) (h1 : R (la + 1)) (h : LineAt S wd lo la q) : LineAt S' wd' lo la q := by
  obtain ⟨⟨g1, g2, g3⟩, g4, g5⟩ := h
  refine ⟨⟨gI_fr hF h0 g1, gI_fr hF h0 g2, gI_fr hF h0 g3⟩, fun p hp => ?_, fun p hp => ?_⟩
  · obtain ⟨a, ha, hk⟩ := g4 p hp
    exact ⟨a, gR_fr hF h1 ha, kd_fr hF (by decide) hk⟩
  · obtain ⟨a, ha, hk⟩ := g5 p hp
    exact ⟨a, gR_fr hF h1 ha, PartAt_fr hF hR hw hk⟩
theorem BoxAt_fr {bo : Nat} {q : Nat → Nat} (hF : Fr R S S') (hR : ∀ a, lo ≤ a → kd S a ≠ 0 → R a) (hw : ∀ t, t < q 94 → wd' (bo + 6 + 3 * t) → wd (bo + 6 + 3 * t)) (hb : ∀ a, bo ≤ a → a ≤ bo + 3 → kd S a ≠ 0 → R a) (h : BoxAt S wd lo bo q) : BoxAt S' wd' lo bo q := by
  obtain ⟨g0, ⟨g1, g2, g3, g4⟩, g5, g6, g7, g8, g9⟩ := h
  have hbo := hb bo (by omega) (by omega) (by rw [g1]; decide)
  have hb1 := hb (bo + 1) (by omega) (by omega) (by rw [g5.2.1]; decide)
  have hb2 := hb (bo + 2) (by omega) (by omega) (by rw [g6.2.1]; decide)
  have hb3 := hb (bo + 3) (by omega) (by omega) (by rw [g7.2.1]; decide)
  refine ⟨g0, ⟨kd_fr hF (by decide) g1, gI_fr hF hbo g2, gI_fr hF hbo g3, gI_fr hF hbo g4⟩, AR_fr hF hbo (by decide) g5, AR_fr hF hbo (by decide) g6, AR_fr hF hbo (by decide) g7, fun p hp => ?_, fun t ht => ?_⟩
  · obtain ⟨⟨a, h1, h2, h3, h4, w, h5, h6⟩, h7⟩ := g8 p hp
    have ra := hR _ h2 (by rw [h3]; decide)
    exact ⟨⟨a, gR_fr hF hb1 h1, h2, kd_fr hF (by decide) h3, gI_fr hF ra h4, w, h5, AR_fr hF ra (by decide) h6⟩, gI_fr hF hb2 h7⟩
  · obtain ⟨⟨h1, h2, h3, h4, h5⟩, h6, h7, h8⟩ := g9 t ht
    have hlo : lo ≤ bo := by
      rcases g0 with g0 | g0
      · exact g0
      · omega
    have rp := hR (bo + 4 + 3 * t) (by omega) (by rw [h2]; decide)
    have rs := hR (bo + 5 + 3 * t) (by omega) (by rw [h3.2.1]; decide)
    have rn := hR (bo + 6 + 3 * t) (by omega) (by rw [h4.2.1]; decide)
    refine ⟨⟨gR_fr hF hb3 h1, kd_fr hF (by decide) h2, AR_fr hF rp (by decide) h3, AR_fr hF rp (by decide) h4, fun w => h5 (hw t ht w)⟩, gI_fr hF rp h6, gI_fr hF rp h7, fun i hi => ⟨gI_fr hF rs (h8 i hi).1, gI_fr hF rn (h8 i hi).2⟩⟩
theorem rst_fr {st : Nat} (hF : Fr R S S') (h0 : R st) (h5 : R (st + 5)) : Fr R (rst S st) (rst S' st) := by
  have e1 := (hF.2 st h0 131 0).2
  unfold rst
  rw [e1]
  cases hp : gR S 131 st 0 with
  | none => exact hF
  | some pa =>
    dsimp only
    refine ⟨hF.1, fun a ha f i => ⟨?_, (hF.2 a ha f i).2⟩⟩
    rw [gI_sI, gI_sI, gI_sI, gI_sI, gI_cpA, gI_cpA, (hF.2 st h0 134 0).1, (hF.2 st h0 133 0).1, (hF.2 (st + 5) h5 0 i).1, (hF.2 a ha f i).1]
theorem URel_fr {x : Nat} : ∀ (us : List (Nat → Nat)) (nx : Nat) (S S' : Hp), Fr R S S' → (∀ a, x + 111 ≤ a → kd S a ≠ 0 → R a) → (∀ a, x + 49 ≤ a → a ≤ x + 52 → kd S a ≠ 0 → R a) → (∀ j, j < us.length → R (x + 55 + 6 * ((nx + 7 * (j + 1)) % 8)) ∧ R (x + 56 + 6 * ((nx + 7 * (j + 1)) % 8)) ∧ R (x + 57 + 6 * ((nx + 7 * (j + 1)) % 8)) ∧ R (x + 60 + 6 * ((nx + 7 * (j + 1)) % 8))) → (∀ a, wd a → wd' a) → (∀ a, kd S a ≠ 0 → wd' a → wd a) → URel x wd us nx S → URel x wd' us nx S'
  | [], _, _, _, _, _, _, _, _, _, _ => trivial
  | u :: us, nx, S, S', hF, hlo, hbx, hst, hw, hw', h => by
    obtain ⟨⟨bo, h1, h2, h3, h4, h5⟩, h6, h7⟩ := h
    obtain ⟨r1, r2, r3, r4⟩ := hst 0 (by rw [List.length_cons]; omega)
    rw [show (nx + 7 * (0 + 1)) % 8 = (nx + 7) % 8 from rfl] at r1 r2 r3 r4
    have hF2 := rst_fr (st := x + 55 + 6 * ((nx + 7) % 8)) hF r1 (by rw [show x + 55 + 6 * ((nx + 7) % 8) + 5 = x + 60 + 6 * ((nx + 7) % 8) by omega]; exact r4)
    have hkr : ∀ a, kd (rst S (x + 55 + 6 * ((nx + 7) % 8))) a = kd S a := fun a => by
      unfold rst
      split <;> rfl
    refine ⟨⟨bo, gR_fr hF r1 h1, h2, LineAt_fr hF (fun a g g' _ => hlo a g g') hw r2 (by rw [show x + 56 + 6 * ((nx + 7) % 8) + 1 = x + 57 + 6 * ((nx + 7) % 8) by omega]; exact r3) h3, BoxAt_fr hF2 (fun a g g' => hlo a g (by rw [← hkr a]; exact g')) (fun t ht w => hw' _ ?_ w) (fun a g1 g2 g' => ?_) h4, ?_⟩, ?_, ?_⟩
    · have := ((h4.2.2.2.2.2.2 t ht).1.2.2.2.1).2.1
      rw [hkr] at this
      rw [this]
      decide
    · rw [hkr] at g'
      rcases h2 with h2 | h2
      · exact hlo a (by omega) g'
      · exact hbx a (by omega) (by omega) g'
    · rcases h5 with h5 | ⟨t, g1, g2, g3⟩
      · exact Or.inl (gR_fr hF r1 h5)
      · exact Or.inr ⟨t, g1, g2, gR_fr hF r1 g3⟩
    · rw [(hF.2 _ r1 134 0).1]
      exact h6
    · refine URel_fr us ((nx + 7) % 8) _ _ hF2 (fun a g g' => hlo a g (by rw [← hkr a]; exact g')) (fun a g1 g2 g' => hbx a g1 g2 (by rw [← hkr a]; exact g')) (fun j hj => ?_) hw (fun a ha => hw' a (by rw [← hkr a]; exact ha)) h7
      have ee : ((nx + 7) % 8 + 7 * (j + 1)) % 8 = (nx + 7 * (j + 1 + 1)) % 8 := by omega
      rw [ee]
      exact hst (j + 1) (by rw [List.length_cons]; omega)
end CFR
