theorem CK_tr {S S' : Hp} {x : Nat} (hk : ∀ a, kd S a ≠ 0 → kd S' a = kd S a ∧ ln S' a = ln S a) (hg : ∀ f a i, a ≤ x + 102 → ((f ≠ 0 ∧ f ≠ 183 ∧ f ≠ 130 ∧ f ≠ 131) ∨ (f = 0 ∧ (a = x + 4 ∨ a = x + 34 ∨ a = x + 54))) → gR S' f a i = gR S f a i) (h : CK S x) : CK S' x := by
  have k1 : ∀ {a k : Nat}, kd S a = k → k ≠ 0 → kd S' a = k := fun e n => ((hk _ (by rw [e]; exact n)).1).trans e
  have r1 : ∀ {f a i : Nat} {v : Option Nat}, gR S f a i = v → a ≤ x + 102 → ((f ≠ 0 ∧ f ≠ 183 ∧ f ≠ 130 ∧ f ≠ 131) ∨ (f = 0 ∧ (a = x + 4 ∨ a = x + 34 ∨ a = x + 54))) → gR S' f a i = v := fun e l c => (hg _ _ _ l c).trans e
  have a1 : ∀ {f o a k n : Nat}, AR S f o a k n → o ≤ x + 102 → (f ≠ 0 ∧ f ≠ 183 ∧ f ≠ 130 ∧ f ≠ 131) → k ≠ 0 → AR S' f o a k n := fun e l c n => ⟨r1 e.1 l (Or.inl c), k1 e.2.1 n, ((hk _ (by rw [e.2.1]; exact n)).2).trans e.2.2⟩
  obtain ⟨⟨f0, f1, f2, f3, f4, f5, f6⟩, ⟨g1, g2⟩, ⟨h1, h2, h3, h4⟩, ⟨i1, i2⟩, ⟨j1, j2, j3, j4⟩, ⟨l1, l2, l3, l4, l5, l6⟩, m1, m2, m3⟩ := h
  refine ⟨⟨k1 f0 (by decide), r1 f1 (by omega) (by omega), r1 f2 (by omega) (by omega), r1 f3 (by omega) (by omega), r1 f4 (by omega) (by omega), r1 f5 (by omega) (by omega), r1 f6 (by omega) (by omega)⟩, ⟨k1 g1 (by decide), a1 g2 (by omega) (by omega) (by decide)⟩, ⟨k1 h1 (by decide), r1 h2 (by omega) (by omega), a1 h3 (by omega) (by omega) (by decide), fun c hc => ⟨r1 (h4 c hc).1 (by omega) (by omega), k1 (h4 c hc).2 (by decide)⟩⟩, ⟨k1 i1 (by decide), a1 i2 (by omega) (by omega) (by decide)⟩, ⟨k1 j1 (by decide), a1 j2 (by omega) (by omega) (by decide), a1 j3 (by omega) (by omega) (by decide), fun i hi => ⟨r1 (j4 i hi).1 (by omega) (by omega), k1 (j4 i hi).2.1 (by decide), ((hk _ (by rw [(j4 i hi).2.1]; decide)).2).trans (j4 i hi).2.2⟩⟩, ⟨k1 l1 (by decide), a1 l2 (by omega) (by omega) (by decide), a1 l3 (by omega) (by omega) (by decide), a1 l4 (by omega) (by omega) (by decide), a1 l5 (by omega) (by omega) (by decide), a1 l6 (by omega) (by omega) (by decide)⟩, k1 m1 (by decide), a1 m2 (by omega) (by omega) (by decide), fun j hj => ?_⟩
  obtain ⟨t1, t2, t3, t4, t5, t6⟩ := m3 j hj
  exact ⟨r1 t1 (by omega) (by omega), k1 t2 (by decide), r1 t3 (by omega) (by omega), k1 t4 (by decide), a1 t5 (by omega) (by omega) (by decide), a1 t6 (by omega) (by omega) (by decide)⟩
theorem CK_st {S : Hp} {x : Nat} (h : CK S x) : ∀ j, j < 8 → kd S (x + 55 + 6 * j) = 9 ∧ kd S (x + 56 + 6 * j) = 3 ∧ kd S (x + 57 + 6 * j) = 23 ∧ kd S (x + 60 + 6 * j) = 20 := fun j hj => by
  obtain ⟨-, -, -, -, -, -, -, -, m3⟩ := h
  obtain ⟨t1, t2, t3, t4, t5, t6⟩ := m3 j hj
  exact ⟨t2, t4, t5.2.1, t6.2.1⟩
theorem BoxAt_cg {S : Hp} {wd : Nat → Prop} {lo bo : Nat} {q q' : Nat → Nat} (hq : ∀ k, 93 ≤ k → q' k = q k) (h : BoxAt S wd lo bo q) : BoxAt S wd lo bo q' := by
  unfold BoxAt at h ⊢
  rw [hq 93 (by omega), hq 94 (by omega), hq 95 (by omega)]
  obtain ⟨g0, g1, g5, g6, g7, g8, g9⟩ := h
  refine ⟨g0, g1, g5, g6, g7, fun p hp => ?_, fun t ht => ?_⟩
  · rw [hq _ (by omega), hq _ (by omega), hq _ (by omega)]
    exact g8 p hp
  · rw [hq _ (by omega), hq _ (by omega)]
    refine ⟨(g9 t ht).1, (g9 t ht).2.1, (g9 t ht).2.2.1, fun i hi => ?_⟩
    rw [hq _ (by omega), hq _ (by omega)]
    exact (g9 t ht).2.2.2 i hi
theorem keep_CK {S : Hp} {x nx bo u : Nat} {r : Option Nat} (hnx : nx < 8) (h : CK S x) : CK (keepH S x nx bo u r) x := by
  refine CK_tr (fun a _ => ⟨by rw [keep_kd], by rw [keep_ln]⟩) (fun f a i ha hc => ?_) h
  cases r with
  | none =>
    show gR (sI (sI (sR (sR (cpL S (x + 56 + 6 * nx) (x + 29)) 130 (x + 55 + 6 * nx) 0 (some bo)) 131 (x + 55 + 6 * nx) 0 none) 146 (x + 53) 0 _) 147 (x + 53) 0 _) f a i = _
    rw [gR_sI, gR_sI, gR_sR, if_neg (by omega), gR_sR, if_neg (by omega), cpL_gR (by omega)]
  | some pa =>
    show gR (sI (sI (sI (sI (cpA (sR (sR (cpL S (x + 56 + 6 * nx) (x + 29)) 130 (x + 55 + 6 * nx) 0 (some bo)) 131 (x + 55 + 6 * nx) 0 (some pa)) (pa + 2) (x + 60 + 6 * nx) 40) 133 (x + 55 + 6 * nx) 0 (gI S 67 pa 0)) 134 (x + 55 + 6 * nx) 0 (gI S 68 pa 0)) 146 (x + 53) 0 _) 147 (x + 53) 0 _) f a i = _
    rw [gR_sI, gR_sI, gR_sI, gR_sI, gR_cpA, gR_sR, if_neg (by omega), gR_sR, if_neg (by omega), cpL_gR (by omega)]
section COPS
variable {S : Hp} {x : Nat} {σ : Sg}
/-- behind keep(.., null): only the line has changed since -/
theorem CS_line {S2 : Hp} {bo nx : Nat} {wd : Nat → Prop} {q' : Nat → Nat} (hC : CK S x) (ht : gI S 162 (x + 1) 0 = nI σ.2.2.2 ∧ ∀ i, i < σ.2.2.2 → gI S 0 (x + 2) i = nI (σ.2.2.1 i)) (h01 : ∀ j, j < 8 → gI S 134 (x + 55 + 6 * j) 0 = 0 ∨ gI S 134 (x + 55 + 6 * j) 0 = 1) (hb : gR S 183 x 0 = some bo) (hbo : x + 111 ≤ bo ∨ bo = x + 49) (hnx : nx < 8) (hu : σ.2.1.length ≤ 8) (hwk : ∀ a, wd a → kd S a = 20) (hL : LineAt S wd (x + 111) (x + 29) σ.1) (hB : BoxAt S wd (x + 111) bo σ.1) (hU : URel x wd σ.2.1 nx S) (h6 : σ.1 2 ≤ 6)
    (hq : ∀ k, 93 ≤ k → q' k = σ.1 k) (hF : Fr (fun a => a ≠ x + 29 ∧ a ≠ x + 30 ∧ kd S a ≠ 0) (keepH S x nx bo σ.2.1.length none) S2) (hz : (∀ a, sz S2 ≤ a → kd S2 a = 0) ∧ x + 111 ≤ sz S2) (hC2 : CK S2 x) (hl : LineAt S2 wd (x + 111) (x + 29) q') : CS S2 x (push σ q') := by
  have hfr := keep_fr (S := S) (x := x) (nx := nx) (bo := bo) (u := σ.2.1.length) (r := none) hnx
  have hk2 : ∀ a, kd S a ≠ 0 → kd S2 a = kd S a ∧ ln S2 a = ln S a := fun a ha => by
    have := hF.1 a (by rw [keep_kd]; exact ha)
    rw [keep_kd, keep_ln] at this
    exact this
  have hst := CK_st hC
  have both : ∀ a, a ≠ x + 29 → a ≠ x + 30 → a ≠ x + 53 → ¬ (x + 55 + 6 * nx ≤ a ∧ a ≤ x + 60 + 6 * nx) → kd S a ≠ 0 → ∀ f i, gI S2 f a i = gI S f a i ∧ gR S2 f a i = gR S f a i := fun a a1 a2 a3 a4 a5 f i => ⟨((hF.2 a ⟨a1, a2, a5⟩ f i).1).trans (hfr.2 a ⟨a3, a4⟩ f i).1, ((hF.2 a ⟨a1, a2, a5⟩ f i).2).trans (hfr.2 a ⟨a3, a4⟩ f i).2⟩
  obtain ⟨c0, c1, c3⟩ : kd S x = 12 ∧ kd S (x + 1) = 11 ∧ kd S (x + 2) = 20 := ⟨hC.1.1, hC.2.1.1, hC.2.1.2.2.1⟩
  have c53 : kd S (x + 53) = 10 := by
    obtain ⟨-, -, -, -, -, -, m1, -⟩ := hC
    exact m1
  refine ⟨hC2, hz, ⟨?_, fun i hi => ?_⟩, fun j hj => ?_, bo, (nx + 1) % 8, wd, ⟨?_, hbo⟩, ⟨Nat.mod_lt _ (by decide), ?_, ?_, ?_⟩, fun a ha => ?_, hl, ?_, ?_⟩
  · exact ((both (x + 1) (by omega) (by omega) (by omega) (by omega) (by rw [c1]; decide) 162 0).1).trans ht.1
  · exact ((both (x + 2) (by omega) (by omega) (by omega) (by omega) (by rw [c3]; decide) 0 i).1).trans (ht.2 i hi)
  · by_cases hjn : j = nx
    · subst hjn
      rw [(hF.2 _ ⟨by omega, by omega, by rw [(hst j hj).1]; decide⟩ 134 0).1, keep_no hj]
      exact h01 j hj
    · rw [(both _ (by omega) (by omega) (by omega) (by omega) (by rw [(hst j hj).1]; decide) 134 0).1]
      exact h01 j hj
  · exact ((both x (by omega) (by omega) (by omega) (by omega) (by rw [c0]; decide) 183 0).2).trans hb
  · exact ((hF.2 (x + 53) ⟨by omega, by omega, by rw [c53]; decide⟩ 146 0).1).trans keep_cnt.1
  · show gI S2 147 (x + 53) 0 = nI ((σ.1 :: σ.2.1).take 8).length
    rw [(hF.2 (x + 53) ⟨by omega, by omega, by rw [c53]; decide⟩ 147 0).1, keep_cnt.2, List.length_take, List.length_cons]
    congr 1
    omega
  · show ((σ.1 :: σ.2.1).take 8).length ≤ 8
    rw [List.length_take]
    omega
  · exact ((hk2 a (by rw [hwk a ha]; decide)).1).trans (hwk a ha)
  · refine BoxAt_cg hq (BoxAt_fr (R := fun a => kd S a ≠ 0 ∧ (x + 111 ≤ a ∨ (x + 49 ≤ a ∧ a ≤ x + 52))) ⟨hk2, fun a ha f i => both a (by omega) (by omega) (by omega) (by omega) ha.1 f i⟩ (fun a h1 h2 => ⟨h2, Or.inl h1⟩) (fun _ _ w => w) (fun a g1 g2 g3 => ⟨g3, ?_⟩) hB)
    rcases hbo with hbo | hbo
    · exact Or.inl (by omega)
    · exact Or.inr (by omega)
  · exact keep_rel (u := σ.2.1.length) (r := none) hnx h6 hbo hL hB hU h01 (Or.inl rfl) (fun pa h => by cases h) hk2 (fun a ha hk f i => (hF.2 a ⟨by omega, by omega, hk⟩ f i).2) (fun a ha hk f i _ => (hF.2 a ⟨by omega, by omega, hk⟩ f i).1) hwk hst
theorem C_packets {Q : Int32 → Hp → Prop} {n : Int32} (hS : CS S x σ) (hV : V σ.1) (h : ∀ S', CS S' x (oPackets σ n).2 → (∀ a, a ≠ x + 29 → a ≠ x + 53 → ¬ (x + 55 ≤ a ∧ a ≤ x + 102) → Sm S S' a) → sz S' = sz S → Q (oPackets σ n).1 S') : wp_X11_packets x n S Q := by
  obtain ⟨hC, hz, ht, h01, bo, nx, wd, ⟨hb, hbo⟩, ⟨hnx, h146, h147, hu⟩, hwk, hL, hB, hU⟩ := id hS
  obtain ⟨⟨f0, f1, f2, f3, f4, f5, f6⟩, -, -, ⟨i1, i2⟩, -, -, m1, m2, m3⟩ := id hC
  have h6 := hV.2.2.1
  unfold oPackets at h
  refine c_withinB (a := 1) (b := 8) rfl rfl (by omega) (fun j j1 j8 hx => ⟨fun _ => ⟨f0, f0, f0, _, f3, _, hb, _, f4, m1, ?_⟩, fun w => absurd w (by decide)⟩) (fun hn => ⟨fun w => absurd rfl w, fun _ => ?_⟩)
  · subst hx
    rw [if_pos ((okB_nI (by omega)).mpr ⟨j1, j8⟩), tn_nI (by omega)] at h
    refine c_keep (u := σ.2.1.length) hC hnx hu h146 h147 hL.2.1 (fun pa hp => by cases hp) ?_
    have hCk := keep_CK (S := S) (bo := bo) (u := σ.2.1.length) (r := none) hnx hC
    have hfr := keep_fr (S := S) (x := x) (nx := nx) (bo := bo) (u := σ.2.1.length) (r := none) hnx
    generalize hS1 : keepH S x nx bo σ.2.1.length none = S1 at hCk hfr ⊢
    have hLk : LineAt S1 wd (x + 111) (x + 29) σ.1 := LineAt_fr hfr (fun a ha _ _ => by omega) (fun _ w => w) (by omega) (by omega) hL
    refine ⟨hCk.1.1, _, hCk.1.2.2.2.1, hCk.2.2.2.1.1, ?_⟩
    rintro _ rfl
    refine ⟨hCk.1.1, _, hCk.1.2.2.2.1, hCk.2.2.2.1.1, ?_⟩
    rintro _ rfl
    rw [hLk.1.2.1]
    refine h _ ?_ ?_ ?_
    · refine CS_line hC ht h01 hb hbo hnx hu hwk hL hB hU h6 (fun k hk => va_up_ne _ _ (by omega)) (by rw [hS1]; exact Fr_sI (fun w => w.1 rfl)) ?_ hCk ?_
      · have e1 : sz (sI S1 35 (x + 29) 0 (nI j)) = sz S := by rw [← hS1, sz_sI, keep_sz]
        have e2 : kd (sI S1 35 (x + 29) 0 (nI j)) = kd S := by
          show kd S1 = kd S
          rw [← hS1]
          exact keep_kd
        rw [e1, e2]
        exact hz
      · obtain ⟨⟨l1, l2, l3⟩, l4, l5⟩ := hLk
        refine ⟨⟨?_, ?_, ?_⟩, l4, fun p hp => ?_⟩
        · rw [gI_sI, if_neg (by omega), va_up_ne _ _ (by omega)]
          exact l1
        · rw [gI_sI, if_pos ⟨rfl, rfl, rfl⟩, va_up_self]
        · rw [gI_sI, if_neg (by omega), va_up_ne _ _ (by omega)]
          exact l3
        · rw [va_up_ne _ _ (by omega)] at hp
          obtain ⟨a, ha, hp⟩ := l5 p hp
          refine ⟨a, ha, ?_⟩
          rw [va_up_ne _ _ (by omega), va_up_ne _ _ (by omega), va_up_ne _ _ (by omega)]
          have e : (fun i => va_up σ.1 0 j (6 + 15 * p + i)) = fun i => σ.1 (6 + 15 * p + i) := by
            funext i
            exact va_up_ne _ _ (by omega)
          rw [e]
          exact PartAt_fr (R := fun a => a ≠ x + 29) (Fr_sI (fun w => w rfl)) (fun a ha _ _ => by omega) (fun _ w => w) hp
    · intro a a1 a2 a3
      refine ⟨by rw [kd_sI, ← hS1, keep_kd], by rw [ln_sI, ← hS1, keep_ln], fun f i => ?_, fun f i => ?_⟩
      · rw [gI_sI, if_neg (by omega)]
        exact (hfr.2 a (by omega) f i).1
      · exact (hfr.2 a (by omega) f i).2
    · rw [sz_sI, ← hS1, keep_sz]
  · rw [if_neg hn] at h
    exact h S hS (fun a _ _ _ => Sm_rf S a) rfl
end COPS
