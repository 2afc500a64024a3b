/-! ===== copies of references, of a line; keep ===== -/
def cpR (S : Hp) (b a i : Nat) : Hp := (S.1, S.2.1, S.2.2.1, fun f' a' j => if f' = 0 ∧ a' = a ∧ j < i then S.2.2.2.1 0 b j else S.2.2.2.1 f' a' j, S.2.2.2.2)
theorem gR_cpR (S : Hp) (b a i f' a' j : Nat) : gR (cpR S b a i) f' a' j = if f' = 0 ∧ a' = a ∧ j < i then gR S 0 b j else gR S f' a' j := rfl
theorem gI_cpR (S : Hp) (b a i f' a' j : Nat) : gI (cpR S b a i) f' a' j = gI S f' a' j := rfl
theorem cpR_0 (S : Hp) (b a : Nat) : cpR S b a 0 = S := by
  obtain ⟨s1, s2, s3, s4, s5⟩ := S
  unfold cpR
  congr 4
  funext f' a' j
  rw [if_neg (fun w => Nat.not_lt_zero _ w.2.2)]
theorem cpR_up (S : Hp) (b a i : Nat) : sR (cpR S b a i) 0 a i (gR S 0 b i) = cpR S b a (i + 1) := by
  unfold sR cpR up3
  congr 4
  funext f' a' j
  show (if f' = 0 ∧ a' = a ∧ j = i then gR S 0 b i else if f' = 0 ∧ a' = a ∧ j < i then S.2.2.2.1 0 b j else S.2.2.2.1 f' a' j) = if f' = 0 ∧ a' = a ∧ j < i + 1 then S.2.2.2.1 0 b j else S.2.2.2.1 f' a' j
  by_cases h1 : f' = 0 ∧ a' = a ∧ j = i
  · have h2 : f' = 0 ∧ a' = a ∧ j < i + 1 := ⟨h1.1, h1.2.1, by omega⟩
    rw [if_pos h1, if_pos h2, h1.2.2]
    rfl
  · rw [if_neg h1]
    by_cases h2 : f' = 0 ∧ a' = a ∧ j < i
    · have h3 : f' = 0 ∧ a' = a ∧ j < i + 1 := ⟨h2.1, h2.2.1, by omega⟩
      rw [if_pos h2, if_pos h3]
    · have h3 : ¬ (f' = 0 ∧ a' = a ∧ j < i + 1) := by omega
      rw [if_neg h2, if_neg h3]
def cpL (S : Hp) (to fr : Nat) : Hp := sI (sI (sI (cpR S (fr + 1) (to + 1) 6) 34 to 0 (gI S 34 fr 0)) 35 to 0 (gI S 35 fr 0)) 36 to 0 (gI S 36 fr 0)
theorem c_copyOf {S : Hp} {to fr : Nat} {Q : Hp → Prop} (h1 : kd S to = 3) (h2 : kd S fr = 3) (h3 : AR S 33 to (to + 1) 23 6) (h4 : AR S 33 fr (fr + 1) 23 6) (h5 : ∀ p, p < 6 → ∃ a, gR S 0 (fr + 1) p = some a ∧ kd S a = 6) (hne : to ≠ fr) (h : Q (cpL S to fr)) : wp_X2_copyOf to fr S Q := by
  have key := Lp_for (B := fun K y => wb_X2_copyOf_2 (fun w0 w1 => K (w0, w1)) Q to fr y.1 y.2) (fun i => (nI i, cpR S (fr + 1) (to + 1) i)) 6 (fun i hi K hK => ?_) (fun K => ?_) (i := 0) (by omega)
  · rw [cpR_0] at key
    exact key
  · obtain ⟨a, ha, hk⟩ := h5 i hi
    have e33 : ∀ o, gR (cpR S (fr + 1) (to + 1) i) 33 o 0 = gR S 33 o 0 := fun o => by rw [gR_cpR, if_neg (by omega)]
    have ei : gR (cpR S (fr + 1) (to + 1) i) 0 (fr + 1) (nI i).toNatClampNeg = some a := by
      rw [nI_clamp (by omega), gR_cpR, if_neg (by omega)]
      exact ha
    refine ⟨fun hc => ?_, fun _ => ⟨h1, h2, fr + 1, (e33 fr).trans h4.1, h4.2.1, ?_, to + 1, (e33 to).trans h3.1, a, ei, h3.2.1, hk, ?_, ?_⟩⟩
    · dsimp only at hc
      rw [li_6, nI_leI (by omega) (by omega)] at hc
      omega
    · show vp_in (nI i) (ln S (fr + 1))
      rw [h4.2.2]
      exact vp_li hi (by omega)
    · show vp_in (nI i) (ln S (to + 1))
      rw [h3.2.2]
      exact vp_li hi (by omega)
    · rintro _ rfl _ rfl
      dsimp only
      rw [nI_clamp (by omega), ← ha, cpR_up, nI_1]
      exact hK
  · refine ⟨fun _ => ⟨h2, h1, ?_⟩, fun hc => absurd (nI_le (Nat.le_refl 6) (by omega)) hc⟩
    rintro _ rfl
    refine ⟨h2, h1, ?_⟩
    rintro _ rfl
    refine ⟨h2, h1, ?_⟩
    rintro _ rfl
    have e1 : gI (sI (cpR S (fr + 1) (to + 1) 6) 34 to 0 (gI (cpR S (fr + 1) (to + 1) 6) 34 fr 0)) 35 fr 0 = gI S 35 fr 0 := by rw [gI_sI, if_neg (by omega)]; rfl
    have e2 : gI (sI (sI (cpR S (fr + 1) (to + 1) 6) 34 to 0 (gI (cpR S (fr + 1) (to + 1) 6) 34 fr 0)) 35 to 0 (gI S 35 fr 0)) 36 fr 0 = gI S 36 fr 0 := by rw [gI_sI, if_neg (by omega), gI_sI, if_neg (by omega)]; rfl
    dsimp only
    rw [e1, e2]
    exact h
theorem cpL_gI {S : Hp} {to fr f a i : Nat} (h : a ≠ to) : gI (cpL S to fr) f a i = gI S f a i := by
  unfold cpL
  rw [gI_sI, if_neg (fun w => h w.2.1), gI_sI, if_neg (fun w => h w.2.1), gI_sI, if_neg (fun w => h w.2.1)]
  rfl
theorem cpL_gR {S : Hp} {to fr f a i : Nat} (h : ¬ (f = 0 ∧ a = to + 1)) : gR (cpL S to fr) f a i = gR S f a i := by
  show gR (cpR S (fr + 1) (to + 1) 6) f a i = _
  rw [gR_cpR, if_neg (fun w => h ⟨w.1, w.2.1⟩)]
theorem cpL_line {S : Hp} {wd : Nat → Prop} {lo to fr : Nat} {q : Nat → Nat} (hto : to + 1 < lo) (h6 : q 2 ≤ 6) (h : LineAt S wd lo fr q) : LineAt (cpL S to fr) wd lo to q := by
  obtain ⟨⟨g1, g2, g3⟩, g4, g5⟩ := h
  have er : ∀ p, p < 6 → gR (cpL S to fr) 0 (to + 1) p = gR S 0 (fr + 1) p := fun p hp => by
    show gR (cpR S (fr + 1) (to + 1) 6) 0 (to + 1) p = _
    rw [gR_cpR, if_pos ⟨rfl, rfl, hp⟩]
  refine ⟨⟨?_, ?_, ?_⟩, fun p hp => ?_, fun p hp => ?_⟩
  · unfold cpL
    rw [gI_sI, if_neg (by omega), gI_sI, if_neg (by omega), gI_sI, if_pos ⟨rfl, rfl, rfl⟩]
    exact g1
  · unfold cpL
    rw [gI_sI, if_neg (by omega), gI_sI, if_pos ⟨rfl, rfl, rfl⟩]
    exact g2
  · unfold cpL
    rw [gI_sI, if_pos ⟨rfl, rfl, rfl⟩]
    exact g3
  · obtain ⟨a, ha, hk⟩ := g4 p hp
    exact ⟨a, (er p hp).trans ha, hk⟩
  · obtain ⟨a, ha, h0, h1, h2, h3, w, h4, h5, ⟨h6', h7, h8⟩, h9⟩ := g5 p hp
    refine ⟨a, (er p (by omega)).trans ha, h0, h1, ?_, ?_, w, h4, h5, ⟨?_, h7, h8⟩, fun i hi => ?_⟩
    · rw [cpL_gI (by omega)]
      exact h2
    · rw [cpL_gI (by omega)]
      exact h3
    · rw [cpL_gR (by omega)]
      exact h6'
    · rw [cpL_gI (by omega)]
      exact h9 i hi
theorem j_min {a b : Nat} {S : Hp} {Q : Int32 → Prop} (ha : a < 2 ^ 31) (hb : b < 2 ^ 31) (h : Q (nI (min a b))) : wp_J9_min_7cf53 (nI a) (nI b) S Q := by
  refine ⟨fun hc => ?_, fun hc => ?_⟩
  · rw [nI_ltI hb ha] at hc
    rw [show min a b = b by omega] at h
    exact h
  · rw [nI_ltI hb ha] at hc
    rw [show min a b = a by omega] at h
    exact h
/-- keep(line, box, changed) -/
def keepH (S : Hp) (x nx bo u : Nat) (r : Option Nat) : Hp :=
  sI (sI (match r with
    | none => sR (sR (cpL S (x + 56 + 6 * nx) (x + 29)) 130 (x + 55 + 6 * nx) 0 (some bo)) 131 (x + 55 + 6 * nx) 0 none
    | some pa => sI (sI (cpA (sR (sR (cpL S (x + 56 + 6 * nx) (x + 29)) 130 (x + 55 + 6 * nx) 0 (some bo)) 131 (x + 55 + 6 * nx) 0 (some pa)) (pa + 2) (x + 60 + 6 * nx) 40) 133 (x + 55 + 6 * nx) 0 (gI S 67 pa 0)) 134 (x + 55 + 6 * nx) 0 (gI S 68 pa 0)) 146 (x + 53) 0 (nI ((nx + 1) % 8))) 147 (x + 53) 0 (nI (min (u + 1) 8))
theorem c_keep {S : Hp} {x nx bo u : Nat} {r : Option Nat} {Q : Hp → Prop} (hC : CK S x) (hnx : nx < 8) (hu : u ≤ 8) (h146 : gI S 146 (x + 53) 0 = nI nx) (h147 : gI S 147 (x + 53) 0 = nI u) (hl : ∀ p, p < 6 → ∃ a, gR S 0 (x + 30) p = some a ∧ kd S a = 6) (hr : ∀ pa, r = some pa → x + 111 ≤ pa ∧ kd S pa = 5 ∧ AR S 66 pa (pa + 2) 20 40 ∧ (gI S 68 pa 0 = 0 ∨ gI S 68 pa 0 = 1)) (h : Q (keepH S x nx bo u r)) : wp_X9_keep (x + 53) (x + 29) bo r S Q := by
  obtain ⟨-, -, -, ⟨l1, l2⟩, -, -, s1, s2, s3⟩ := hC
  obtain ⟨t1, t2, t3, t4, t5, t6⟩ := s3 nx hnx
  refine ⟨s1, s1, x + 54, s2.1, s2.2.1, by rw [h146, s2.2.2]; exact vp_li hnx (by omega), x + 55 + 6 * nx, by rw [h146, nI_clamp (by omega)]; exact t1, t2, t2, x + 56 + 6 * nx, t3, t4, ?_⟩
  refine c_copyOf t4 l1 (by rw [show x + 56 + 6 * nx + 1 = x + 57 + 6 * nx by omega]; exact t5) l2 hl (by omega) ⟨t2, ?_⟩
  rintro _ rfl
  refine ⟨t2, ?_⟩
  rintro _ rfl
  have fin : ∀ S4 : Hp, kd S4 = kd S → gI S4 146 (x + 53) 0 = nI nx → gI S4 147 (x + 53) 0 = nI u → Q (sI (sI S4 146 (x + 53) 0 (nI ((nx + 1) % 8))) 147 (x + 53) 0 (nI (min (u + 1) 8))) → (kd S4 (x + 53) = 10 ∧ ¬ (8 : Int32) = 0 ∧ kd S4 (x + 53) = 10 ∧ ∀ S5 : Hp, S5 = sI S4 146 (x + 53) 0 (((gI S4 146 (x + 53) 0) + (1 : Int32)) - ((gI S4 146 (x + 53) 0) + (1 : Int32)) / (8 : Int32) * (8 : Int32)) → kd S5 (x + 53) = 10 ∧ wp_J9_min_7cf53 (((gI S5 147 (x + 53) 0) + (1 : Int32))) ((8 : Int32)) S5 (fun e6 => kd S5 (x + 53) = 10 ∧ ∀ S8 : Hp, S8 = sI S5 147 (x + 53) 0 e6 → Q S8)) := by
    intro S4 hk e1 e2 hQ
    have hk' : kd S4 (x + 53) = 10 := by rw [hk]; exact s1
    refine ⟨hk', by decide, hk', ?_⟩
    rintro _ rfl
    refine ⟨hk', ?_⟩
    rw [e1, li_1, li_8, nI_add, pk_rem (by omega) (by omega) (by omega)]
    have e3 : gI (sI S4 146 (x + 53) 0 (nI ((nx + 1) % 8))) 147 (x + 53) 0 = nI u := by rw [gI_sI, if_neg (by omega)]; exact e2
    rw [e3, nI_add]
    refine j_min (by omega) (by omega) ⟨hk', ?_⟩
    rintro _ rfl
    exact hQ
  refine ⟨fun hn => ?_, fun pa hp => ?_⟩
  · subst hn
    exact fin _ rfl (by rw [gI_sR, gI_sR, cpL_gI (by omega)]; exact h146) (by rw [gI_sR, gI_sR, cpL_gI (by omega)]; exact h147) h
  · subst hp
    obtain ⟨p0, p1, ⟨p2, p3, p4⟩, p5⟩ := hr pa rfl
    have e66 : gR (sR (sR (cpL S (x + 56 + 6 * nx) (x + 29)) 130 (x + 55 + 6 * nx) 0 (some bo)) 131 (x + 55 + 6 * nx) 0 (some pa)) 66 pa 0 = some (pa + 2) := by
      rw [gR_sR, if_neg (by omega), gR_sR, if_neg (by omega), cpL_gR (by omega)]
      exact p2
    have e132 : gR (sR (sR (cpL S (x + 56 + 6 * nx) (x + 29)) 130 (x + 55 + 6 * nx) 0 (some bo)) 131 (x + 55 + 6 * nx) 0 (some pa)) 132 (x + 55 + 6 * nx) 0 = some (x + 60 + 6 * nx) := by
      rw [gR_sR, if_neg (by omega), gR_sR, if_neg (by omega), cpL_gR (by omega)]
      exact t6.1
    refine ⟨p1, t2, _, e66, _, e132, p3, t6.2.1, by omega, by show 40 ≤ ln S (pa + 2); omega, by have := t6.2.2; show 40 ≤ ln S (x + 60 + 6 * nx); omega, ?_⟩
    rintro _ rfl
    refine ⟨p1, t2, ?_⟩
    rintro _ rfl
    have e67 : gI (cpA (sR (sR (cpL S (x + 56 + 6 * nx) (x + 29)) 130 (x + 55 + 6 * nx) 0 (some bo)) 131 (x + 55 + 6 * nx) 0 (some pa)) (pa + 2) (x + 60 + 6 * nx) 40) 67 pa 0 = gI S 67 pa 0 := by
      rw [gI_cpA, if_neg (by omega), gI_sR, gI_sR, cpL_gI (by omega)]
    rw [e67]
    have e68 : gI (sI (cpA (sR (sR (cpL S (x + 56 + 6 * nx) (x + 29)) 130 (x + 55 + 6 * nx) 0 (some bo)) 131 (x + 55 + 6 * nx) 0 (some pa)) (pa + 2) (x + 60 + 6 * nx) 40) 133 (x + 55 + 6 * nx) 0 (gI S 67 pa 0)) 68 pa 0 = gI S 68 pa 0 := by
      rw [gI_sI, if_neg (by omega), gI_cpA, if_neg (by omega), gI_sR, gI_sR, cpL_gI (by omega)]
    refine ⟨p1, t2, by rw [e68]; exact p5, ?_⟩
    rintro _ rfl
    rw [e68]
    have eg : ∀ f, f ≠ 0 → gI (sI (sI (cpA (sR (sR (cpL S (x + 56 + 6 * nx) (x + 29)) 130 (x + 55 + 6 * nx) 0 (some bo)) 131 (x + 55 + 6 * nx) 0 (some pa)) (pa + 2) (x + 60 + 6 * nx) 40) 133 (x + 55 + 6 * nx) 0 (gI S 67 pa 0)) 134 (x + 55 + 6 * nx) 0 (gI S 68 pa 0)) f (x + 53) 0 = gI S f (x + 53) 0 := fun f hf => by
      rw [gI_sI, if_neg (by omega), gI_sI, if_neg (by omega), gI_cpA, if_neg (by omega), gI_sR, gI_sR, cpL_gI (by omega)]
    exact fin _ rfl ((eg 146 (by omega)).trans h146) ((eg 147 (by omega)).trans h147) h
