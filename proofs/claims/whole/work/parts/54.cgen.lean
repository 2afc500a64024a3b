/-! ===== the class: what a call leaves ===== -/
def KO (x : Nat) (S S' : Hp) : Prop := ∀ a, x + 103 ≤ a → a ≤ x + 110 → Sm S S' a
theorem KO_rf (x : Nat) (S : Hp) : KO x S S := fun a _ _ => Sm_rf S a
theorem KO_tr {x : Nat} {S S' S'' : Hp} (h : KO x S S') (h' : KO x S' S'') : KO x S S'' := fun a h1 h2 => Sm_tr (h a h1 h2) (h' a h1 h2)
theorem KO_sI {x : Nat} {S : Hp} {f a i : Nat} {v : Int32} (h : a < x + 103 ∨ x + 110 < a) : KO x S (sI S f a i v) := fun b h1 h2 => ⟨rfl, rfl, fun f' i' => by rw [gI_sI, if_neg (by omega)], fun _ _ => rfl⟩
theorem KO_sR {x : Nat} {S : Hp} {f a i : Nat} {v : Option Nat} (h : a < x + 103 ∨ x + 110 < a) : KO x S (sR S f a i v) := fun b h1 h2 => ⟨rfl, rfl, fun _ _ => rfl, fun f' i' => by rw [gR_sR, if_neg (by omega)]⟩
theorem KO_nw {x : Nat} {S : Hp} {k n : Nat} (h : x + 110 < sz S) : KO x S (nw S k n) := fun b h1 h2 => ⟨by rw [kd_nw, if_neg (by omega)], by rw [ln_nw, if_neg (by omega)], fun f' i' => by rw [gI_nw, if_neg (by omega)], fun f' i' => by rw [gR_nw, if_neg (by omega)]⟩
theorem KO_cpA {x : Nat} {S : Hp} {a b n : Nat} (h : b < x + 103 ∨ x + 110 < b) : KO x S (cpA S a b n) := fun c h1 h2 => ⟨rfl, rfl, fun f' i' => by rw [gI_cpA, if_neg (by omega)], fun _ _ => rfl⟩
theorem KO_setA {x : Nat} {S : Hp} {a : Nat} {g : Nat → Int32} (h : a < x + 103 ∨ x + 110 < a) : KO x S (setA S a g) := fun c h1 h2 => ⟨rfl, rfl, fun f' i' => by rw [gI_setA, if_neg (by omega)], fun _ _ => rfl⟩
theorem KO_keep {S : Hp} {x nx bo u : Nat} {r : Option Nat} (hnx : nx < 8) : KO x S (keepH S x nx bo u r) := fun a h1 h2 => by
  have hf := keep_fr (S := S) (x := x) (nx := nx) (bo := bo) (u := u) (r := r) hnx
  exact ⟨by rw [keep_kd], by rw [keep_ln], fun f i => (hf.2 a ⟨by omega, by omega⟩ f i).1, fun f i => (hf.2 a ⟨by omega, by omega⟩ f i).2⟩
theorem MS_ko {S S' : Hp} {x : Nat} {σ : Sg} (hK : KO x S S') (h : MS S (x + 103) σ) : MS S' (x + 103) σ := by
  obtain ⟨⟨k0, ⟨a1, a2, a3⟩, ⟨b1, b2, b3⟩, ⟨c1, c2, c3⟩, ⟨d1, d2, d3⟩, ⟨e1, e2, e3⟩, ⟨f1, f2, f3⟩, g1, g2, g3⟩, hR, ⟨hu, hu8, hus⟩, ⟨ht1, ht2, ht3⟩, hw⟩ := h
  have K : ∀ j, j ≤ 7 → Sm S S' (x + 103 + j) := fun j hj => hK _ (by omega) (by omega)
  have s0 : Sm S S' (x + 103) := K 0 (by omega)
  refine ⟨⟨s0.1.trans k0, ⟨(s0.2.2.2 _ _).trans a1, (K 1 (by omega)).1.trans a2, (K 1 (by omega)).2.1.trans a3⟩, ⟨(s0.2.2.2 _ _).trans b1, (K 2 (by omega)).1.trans b2, (K 2 (by omega)).2.1.trans b3⟩, ⟨(s0.2.2.2 _ _).trans c1, (K 3 (by omega)).1.trans c2, (K 3 (by omega)).2.1.trans c3⟩, ⟨(s0.2.2.2 _ _).trans d1, (K 4 (by omega)).1.trans d2, (K 4 (by omega)).2.1.trans d3⟩, ⟨(s0.2.2.2 _ _).trans e1, (K 5 (by omega)).1.trans e2, (K 5 (by omega)).2.1.trans e3⟩, ⟨(s0.2.2.2 _ _).trans f1, (K 6 (by omega)).1.trans f2, (K 6 (by omega)).2.1.trans f3⟩, (s0.2.2.2 _ _).trans g1, (K 7 (by omega)).1.trans g2, (K 7 (by omega)).2.1.trans g3⟩, fun i hi => ?_, ⟨?_, hu8, fun j u hj k hk => ?_⟩, ⟨?_, ht2, fun i hi => ⟨?_, (ht3 i hi).2⟩⟩, fun i hi => ?_⟩
  · exact ((K 1 (by omega)).2.2.1 _ _).trans (hR i hi)
  · exact (s0.2.2.1 _ _).trans hu
  · exact ((K 1 (by omega)).2.2.1 _ _).trans (hus j u hj k hk)
  · exact (s0.2.2.1 _ _).trans ht1
  · exact ((K 2 (by omega)).2.2.1 _ _).trans (ht3 i hi).1
  · exact ((K 4 (by omega)).2.2.1 _ _).trans (hw i hi)
theorem CS_so {S S' : Hp} {x : Nat} {σ : Sg} (hK : SO (x + 103) S S') (h : CS S x σ) : CS S' x σ := by
  obtain ⟨hC, ⟨hz1, hz2⟩, ht, h01, bo, nx, wd, ⟨hb, hbo⟩, ⟨hnx, h146, h147, hu⟩, hwk, hL, hB, hU⟩ := h
  obtain ⟨hsz, hkl, hK⟩ := hK
  have hk : ∀ a, kd S' a = kd S a := fun a => (hkl a).1
  have hF : Fr (fun a => a < x + 103 ∨ x + 110 < a) S S' := ⟨fun a _ => hkl a, fun a ha f i => ⟨(hK a (by omega)).2.2.1 f i, (hK a (by omega)).2.2.2 f i⟩⟩
  refine ⟨CK_tr (fun a _ => hkl a) (fun f a i ha _ => (hF.2 a (Or.inl (by omega)) f i).2) hC, ⟨fun a ha => by rw [hk]; exact hz1 a (by omega), by omega⟩, ⟨gI_fr hF (Or.inl (by omega)) ht.1, fun i hi => gI_fr hF (Or.inl (by omega)) (ht.2 i hi)⟩, fun j hj => ?_, bo, nx, wd, ⟨gR_fr hF (Or.inl (by omega)) hb, hbo⟩, ⟨hnx, gI_fr hF (Or.inl (by omega)) h146, gI_fr hF (Or.inl (by omega)) h147, hu⟩, fun a ha => by rw [hk]; exact hwk a ha, ?_, ?_, ?_⟩
  · rw [(hF.2 _ (Or.inl (by omega)) 134 0).1]
    exact h01 j hj
  · exact LineAt_fr hF (fun a ha _ _ => Or.inr (by omega)) (fun _ w => w) (Or.inl (by omega)) (Or.inl (by omega)) hL
  · refine BoxAt_fr hF (fun a ha _ => Or.inr (by omega)) (fun _ _ w => w) (fun a g1 g2 _ => ?_) hB
    rcases hbo with hbo | hbo
    · exact Or.inr (by omega)
    · exact Or.inl (by omega)
  · refine URel_fr σ.2.1 nx S S' hF (fun a ha _ => Or.inr (by omega)) (fun a _ _ _ => Or.inl (by omega)) (fun j hj => ?_) (fun _ w => w) (fun _ _ w => w) hU
    have hm : (nx + 7 * (j + 1)) % 8 < 8 := Nat.mod_lt _ (by decide)
    exact ⟨Or.inl (by omega), Or.inl (by omega), Or.inl (by omega), Or.inl (by omega)⟩
theorem PartAt_cg {S : Hp} {wd : Nat → Prop} {lo a l k g : Nat} {c c' : Nat → Nat} (e : ∀ i, i < l → c' i = c i) (h : PartAt S wd lo a l k g c) : PartAt S wd lo a l k g c' := by
  obtain ⟨h0, h1, h2, h3, w, w1, w2, w3, w4⟩ := h
  exact ⟨h0, h1, h2, h3, w, w1, w2, w3, fun i hi => by rw [e i hi]; exact w4 i hi⟩
section CGEN
variable {S : Hp} {x : Nat} {σ : Sg}
/-- behind keep(.., r) and a change of the line, of the box, of the packet r -/
theorem CS_gen {S2 : Hp} {bo bo2 nx : Nat} {r : Option Nat} {wd : Nat → Prop} {q' : Nat → Nat} (hC : CK S x) (ht : gI S 162 (x + 1) 0 = nI σ.2.2.2 ∧ ∀ i, i < σ.2.2.2 → gI S 0 (x + 2) i = nI (σ.2.2.1 i)) (h01 : ∀ j, j < 8 → gI S 134 (x + 55 + 6 * j) 0 = 0 ∨ gI S 134 (x + 55 + 6 * j) 0 = 1) (hbo : x + 111 ≤ bo ∨ bo = x + 49) (hnx : nx < 8) (hu : σ.2.1.length ≤ 8) (hwk : ∀ a, wd a → kd S a = 20) (hL : LineAt S wd (x + 111) (x + 29) σ.1) (hB : BoxAt S wd (x + 111) bo σ.1) (hU : URel x wd σ.2.1 nx S) (h6 : σ.1 2 ≤ 6)
    (hr : r = none ∨ ∃ t, t < σ.1 94 ∧ x + 111 ≤ bo ∧ r = some (bo + 4 + 3 * t)) (hp01 : ∀ pa, r = some pa → gI S 68 pa 0 = 0 ∨ gI S 68 pa 0 = 1)
    (hk : ∀ a, kd S a ≠ 0 → kd S2 a = kd S a ∧ ln S2 a = ln S a)
    (hR : ∀ a, a ≠ x → a ≠ x + 29 → a ≠ x + 30 → kd S a ≠ 0 → ∀ f i, gR S2 f a i = gR (keepH S x nx bo σ.2.1.length r) f a i)
    (hI : ∀ a, a ≠ x → a ≠ x + 29 → a ≠ x + 30 → kd S a ≠ 0 → ∀ f i, (∀ pa, r = some pa → ¬ (a = pa ∧ i = 0 ∧ (f = 67 ∨ f = 68)) ∧ ¬ (a = pa + 2 ∧ f = 0 ∧ i < 40)) → gI S2 f a i = gI (keepH S x nx bo σ.2.1.length r) f a i)
    (hz : (∀ a, sz S2 ≤ a → kd S2 a = 0) ∧ x + 111 ≤ sz S2) (hC2 : CK S2 x) (hb2 : gR S2 183 x 0 = some bo2) (hbo2 : x + 111 ≤ bo2 ∨ bo2 = x + 49) (hl : LineAt S2 wd (x + 111) (x + 29) q') (hB2 : BoxAt S2 wd (x + 111) bo2 q') : CS S2 x (push σ q') := by
  have hfr := keep_fr (S := S) (x := x) (nx := nx) (bo := bo) (u := σ.2.1.length) (r := r) hnx
  have hst := CK_st hC
  have hpa : ∀ pa, r = some pa → x + 111 ≤ pa := fun pa h => by
    rcases hr with hr | ⟨t, _, h1, hr⟩
    · rw [hr] at h
      cases h
    · rw [hr] at h
      cases h
      omega
  have lowI : ∀ a, a ≠ x → a ≠ x + 29 → a ≠ x + 30 → a ≤ x + 110 → kd S a ≠ 0 → ∀ f i, gI S2 f a i = gI (keepH S x nx bo σ.2.1.length r) f a i := fun a a1 a2 a3 a4 a5 f i => hI a a1 a2 a3 a5 f i (fun pa h => by have := hpa pa h; exact ⟨by omega, by omega⟩)
  obtain ⟨c0, c1, c3⟩ : kd S x = 12 ∧ kd S (x + 1) = 11 ∧ kd S (x + 2) = 20 := ⟨hC.1.1, hC.2.1.1, hC.2.1.2.2.1⟩
  have c53 : kd S (x + 53) = 10 := by
    obtain ⟨-, -, -, -, -, -, m1, -⟩ := hC
    exact m1
  refine ⟨hC2, hz, ⟨?_, fun i hi => ?_⟩, fun j hj => ?_, bo2, (nx + 1) % 8, wd, ⟨hb2, hbo2⟩, ⟨Nat.mod_lt _ (by decide), ?_, ?_, ?_⟩, fun a ha => ?_, hl, hB2, ?_⟩
  · rw [lowI (x + 1) (by omega) (by omega) (by omega) (by omega) (by rw [c1]; decide) 162 0, (hfr.2 (x + 1) ⟨by omega, by omega⟩ 162 0).1]
    exact ht.1
  · rw [lowI (x + 2) (by omega) (by omega) (by omega) (by omega) (by rw [c3]; decide) 0 i, (hfr.2 (x + 2) ⟨by omega, by omega⟩ 0 i).1]
    exact ht.2 i hi
  · rw [lowI _ (by omega) (by omega) (by omega) (by omega) (by rw [(hst j hj).1]; decide) 134 0]
    by_cases hjn : j = nx
    · subst hjn
      cases hrr : r with
      | none =>
        rw [keep_no hj]
        exact h01 j hj
      | some pa =>
        rw [(keep_pa (hpa pa hrr) hj).2.1]
        exact hp01 pa hrr
    · rw [(hfr.2 _ ⟨by omega, by omega⟩ 134 0).1]
      exact h01 j hj
  · rw [lowI (x + 53) (by omega) (by omega) (by omega) (by omega) (by rw [c53]; decide) 146 0]
    exact keep_cnt.1
  · show gI S2 147 (x + 53) 0 = nI ((σ.1 :: σ.2.1).take 8).length
    rw [lowI (x + 53) (by omega) (by omega) (by omega) (by omega) (by rw [c53]; decide) 147 0, keep_cnt.2, List.length_take, List.length_cons]
    congr 1
    omega
  · show ((σ.1 :: σ.2.1).take 8).length ≤ 8
    rw [List.length_take]
    omega
  · exact ((hk a (by rw [hwk a ha]; decide)).1).trans (hwk a ha)
  · exact keep_rel (u := σ.2.1.length) (r := r) hnx h6 hbo hL hB hU h01 hr hp01 hk (fun a ha hk0 f i => hR a (by omega) (by omega) (by omega) hk0 f i) (fun a ha hk0 f i hp => hI a (by omega) (by omega) (by omega) hk0 f i hp) hwk hst
/-- the state behind keep(line, box, null) -/
def KP (S : Hp) (x : Nat) (σ : Sg) (S1 : Hp) : Prop := CK S1 x ∧ (sz S1 = sz S ∧ kd S1 = kd S ∧ ln S1 = ln S) ∧ KO x S S1 ∧ ∃ (bo nx : Nat) (wd : Nat → Prop), nx < 8 ∧ gR S1 183 x 0 = some bo ∧ (x + 111 ≤ bo ∨ bo = x + 49) ∧ LineAt S1 wd (x + 111) (x + 29) σ.1 ∧ BoxAt S1 wd (x + 111) bo σ.1 ∧ (∀ a, wd a → kd S a = 20) ∧ ∀ (S2 : Hp) (bo2 : Nat) (q' : Nat → Nat), Fr (fun a => a ≠ x ∧ a ≠ x + 29 ∧ a ≠ x + 30 ∧ kd S a ≠ 0) S1 S2 → ((∀ a, sz S2 ≤ a → kd S2 a = 0) ∧ x + 111 ≤ sz S2) → CK S2 x → gR S2 183 x 0 = some bo2 → (x + 111 ≤ bo2 ∨ bo2 = x + 49) → LineAt S2 wd (x + 111) (x + 29) q' → BoxAt S2 wd (x + 111) bo2 q' → CS S2 x (push σ q')
theorem c_keepN {Q : Hp → Prop} {bo : Nat} (hS : CS S x σ) (hV : V σ.1) (hb : gR S 183 x 0 = some bo) (h : ∀ S1, KP S x σ S1 → Q S1) : wp_X9_keep (x + 53) (x + 29) bo none S Q := by
  obtain ⟨hC, hz, ht, h01, bo', nx, wd, ⟨hb', hbo⟩, ⟨hnx, h146, h147, hu⟩, hwk, hL, hB, hU⟩ := id hS
  have e : bo = bo' := Option.some.inj (hb.symm.trans hb')
  subst e
  have hfr := keep_fr (S := S) (x := x) (nx := nx) (bo := bo) (u := σ.2.1.length) (r := none) hnx
  refine c_keep (u := σ.2.1.length) hC hnx hu h146 h147 hL.2.1 (fun pa hp => by cases hp) (h _ ⟨keep_CK hnx hC, ⟨keep_sz, keep_kd, keep_ln⟩, KO_keep hnx, bo, nx, wd, hnx, ?_, hbo, ?_, ?_, hwk, ?_⟩)
  · rw [(hfr.2 x ⟨by omega, by omega⟩ 183 0).2]
    exact hb
  · exact LineAt_fr hfr (fun a ha _ _ => by omega) (fun _ w => w) (by omega) (by omega) hL
  · refine BoxAt_fr hfr (fun a ha _ => by omega) (fun _ _ w => w) (fun a g1 g2 _ => by omega) hB
  · intro S2 bo2 q' hF hz2 hC2 hb2 hbo2 hl hB2
    refine CS_gen hC ht h01 hbo hnx hu hwk hL hB hU hV.2.2.1 (Or.inl rfl) (fun pa h => by cases h) (fun a ha => ?_) (fun a a1 a2 a3 a4 f i => (hF.2 a ⟨a1, a2, a3, a4⟩ f i).2) (fun a a1 a2 a3 a4 f i _ => (hF.2 a ⟨a1, a2, a3, a4⟩ f i).1) hz2 hC2 hb2 hbo2 hl hB2
    have := hF.1 a (by rw [keep_kd]; exact ha)
    rw [keep_kd, keep_ln] at this
    exact this
/-- only the line changes behind keep -/
theorem KP_line {S1 S2 : Hp} {q' : Nat → Nat} (hK : KP S x σ S1) (hq : ∀ k, 93 ≤ k → q' k = σ.1 k) (hF : Fr (fun a => a ≠ x + 29 ∧ a ≠ x + 30 ∧ kd S a ≠ 0) S1 S2) (hz : (∀ a, sz S2 ≤ a → kd S2 a = 0) ∧ x + 111 ≤ sz S2) (hC2 : CK S2 x) (hl : ∀ wd, (∀ a, wd a → kd S a = 20) → LineAt S1 wd (x + 111) (x + 29) σ.1 → LineAt S2 wd (x + 111) (x + 29) q') : CS S2 x (push σ q') := by
  obtain ⟨hC, ⟨hs, hk, hln⟩, hko, bo, nx, wd, hnx, hb, hbo, hL, hB, hwk, hfin⟩ := hK
  have hx : kd S x ≠ 0 := by
    rw [← hk, hC.1.1]
    decide
  refine hfin S2 bo q' (Fr_sub hF (fun a ha => ⟨ha.2.1, ha.2.2.1, ha.2.2.2⟩)) hz hC2 ?_ hbo (hl wd hwk hL) (BoxAt_cg hq (BoxAt_fr hF (fun a h1 h2 => ⟨by omega, by omega, by rw [← hk]; exact h2⟩) (fun _ _ w => w) (fun a g1 g2 g3 => ⟨by omega, by omega, by rw [← hk]; exact g3⟩) hB))
  rw [(hF.2 x ⟨by omega, by omega, hx⟩ 183 0).2]
  exact hb
theorem c_has {la n : Nat} {p : Int32} {Q : Int32 → Prop} (h3 : kd S la = 3) (hn : gI S 34 la 0 = nI n) (h6 : n ≤ 6) (h1 : ∀ j, j < n → p = nI j → Q 1) (h0 : ¬ vp_in p n → Q 0) : wp_X2_has la p S Q := by
  refine ⟨h3, ?_⟩
  rw [hn]
  exact c_withinN (by omega) (fun j hj hx => ⟨Or.inr rfl, h1 j hj hx⟩) (fun h => ⟨Or.inl rfl, h0 h⟩)
theorem C_room {Q : Int32 → Hp → Prop} {n : Int32} (hS : CS S x σ) (hV : V σ.1) (h : ∀ S', CS S' x (oRoom σ n).2 → KO x S S' → Q (oRoom σ n).1 S') : wp_X11_room x n S Q := by
  obtain ⟨hC, hz, ht, h01, bo, nx, wd, ⟨hb, hbo⟩, -⟩ := id hS
  obtain ⟨⟨f0, f1, f2, f3, f4, f5, f6⟩, -, -, ⟨i1, i2⟩, -, -, m1, m2, m3⟩ := id hC
  unfold oRoom at h
  refine c_withinB (a := 1) (b := 40) rfl rfl (by omega) (fun j j1 j8 hx => ⟨fun _ => ⟨f0, f0, f0, _, f3, _, hb, _, f4, m1, c_keepN hS hV hb fun S1 hK => ?_⟩, fun w => absurd w (by decide)⟩) (fun hn => ⟨fun w => absurd rfl w, fun _ => ?_⟩)
  · subst hx
    rw [if_pos ((okB_nI (by omega)).mpr ⟨j1, j8⟩), tn_nI (by omega)] at h
    obtain ⟨hC1, ⟨hs, hk, hln⟩, hko, bo1, nx1, wd1, hnx1, hb1, hbo1, hL1, hB1, hwk1, hfin⟩ := id hK
    refine ⟨hC1.1.1, _, hC1.1.2.2.2.1, hC1.2.2.2.1.1, ?_⟩
    rintro _ rfl
    refine ⟨hC1.1.1, _, hC1.1.2.2.2.1, hC1.2.2.2.1.1, ?_⟩
    rintro _ rfl
    rw [hL1.1.2.2]
    refine h _ (KP_line hK (fun k hk => va_up_ne _ _ (by omega)) (Fr_sI (fun w => w.1 rfl)) ?_ hC1 (fun wd hwk hL => ?_)) (KO_tr hko (KO_sI (by omega)))
    · show (∀ a, sz S1 ≤ a → kd S1 a = 0) ∧ x + 111 ≤ sz S1
      rw [hs, hk]
      exact hz
    · obtain ⟨⟨l1, l2, l3⟩, l4, l5⟩ := hL
      refine ⟨⟨?_, ?_, ?_⟩, l4, fun p hp => ?_⟩
      · rw [gI_sI, if_neg (by omega), va_up_ne _ _ (by omega)]
        exact l1
      · rw [gI_sI, if_neg (by omega), va_up_ne _ _ (by omega)]
        exact l2
      · rw [gI_sI, if_pos ⟨rfl, rfl, rfl⟩, va_up_self]
      · rw [va_up_ne _ _ (by omega)] at hp
        obtain ⟨a, ha, hp⟩ := l5 p hp
        refine ⟨a, ha, ?_⟩
        rw [va_up_ne _ _ (by omega), va_up_ne _ _ (by omega), va_up_ne _ _ (by omega)]
        have e : (fun i => va_up σ.1 1 j (6 + 15 * p + i)) = fun i => σ.1 (6 + 15 * p + i) := by
          funext i
          exact va_up_ne _ _ (by omega)
        rw [e]
        exact PartAt_fr (R := fun a => a ≠ x + 29) (Fr_sI (fun w => w rfl)) (fun a ha _ _ => by omega) (fun _ w => w) hp
  · rw [if_neg hn] at h
    exact h S hS (KO_rf x S)
/-- a new part in a line's row, of an old one's word -/
theorem new_part {S1 : Hp} {p k g : Nat} {q' : Nat → Nat} (hK : KP S x σ S1) (hz : (∀ a, sz S ≤ a → kd S a = 0) ∧ x + 111 ≤ sz S) (hV : V σ.1) (hp : p < σ.1 2) {a w : Nat} (ha : gR S1 0 (x + 30) p = some a) (hw : gR S1 81 a 0 = some w) (hq : ∀ j, j ≠ 4 + 15 * p → j ≠ 5 + 15 * p → q' j = σ.1 j) (h4 : q' (4 + 15 * p) = k) (h5 : q' (5 + 15 * p) = g) : CS (sR (sI (sI (sR (nw S1 6 0) 81 (sz S1) 0 (some w)) 82 (sz S1) 0 (nI k)) 83 (sz S1) 0 (nI g)) 0 (x + 30) p (some (sz S1))) x (push σ q') := by
  have h6 := hV.2.2.1
  obtain ⟨hC, ⟨hs, hk, hln⟩, hko, -⟩ := id hK
  have hz1 : kd S1 (sz S1) = 0 := by
    rw [hk, hs]
    exact hz.1 _ (Nat.le_refl _)
  have hzz : x + 111 ≤ sz S1 := by
    rw [hs]
    exact hz.2
  have hF0 : Fr (fun a => a ≠ x + 29 ∧ a ≠ x + 30 ∧ kd S a ≠ 0) S1 (sI (sI (sR (nw S1 6 0) 81 (sz S1) 0 (some w)) 82 (sz S1) 0 (nI k)) 83 (sz S1) 0 (nI g)) := by
    have hne : ¬ (fun a => a ≠ x + 29 ∧ a ≠ x + 30 ∧ kd S a ≠ 0) (sz S1) := fun ww => ww.2.2 (by rw [← hk]; exact hz1)
    exact Fr_tr (Fr_nw hne hz1) (Fr_tr (Fr_sR hne) (Fr_tr (Fr_sI hne) (Fr_sI hne)))
  refine KP_line hK (fun j hj => hq j (by omega) (by omega)) (Fr_tr hF0 (Fr_sR (fun ww => ww.2.1 rfl))) ⟨fun b hb => ?_, ?_⟩ ?_ (fun wd hwk hL => ?_)
  · have hb' : sz S1 + 1 ≤ b := hb
    rw [kd_sR, kd_sI, kd_sI, kd_sR, kd_nw, if_neg (by omega), hk]
    exact hz.1 b (by omega)
  · show x + 111 ≤ sz S1 + 1
    omega
  · refine CK_tr (S := S1) (fun b hb => (Fr_tr hF0 (Fr_sR (f := 0) (a := x + 30) (i := p) (v := some (sz S1)) (fun ww => ww.2.1 rfl))).1 b hb) (fun f b i hb hc => ?_) hC
    rw [gR_sR, if_neg (by omega), gR_sI, gR_sI, gR_sR, if_neg (by omega), gR_nw, if_neg (by omega)]
  · obtain ⟨⟨l1, l2, l3⟩, l4, l5⟩ := hL
    obtain ⟨ap, hap, pp⟩ := l5 p hp
    have eap : a = ap := Option.some.inj (ha.symm.trans hap)
    subst eap
    have low : ∀ f i, gI (sR (sI (sI (sR (nw S1 6 0) 81 (sz S1) 0 (some w)) 82 (sz S1) 0 (nI k)) 83 (sz S1) 0 (nI g)) 0 (x + 30) p (some (sz S1))) f (x + 29) i = gI S1 f (x + 29) i := fun f i => by
      rw [gI_sR, gI_sI, if_neg (by omega), gI_sI, if_neg (by omega), gI_sR, gI_nw, if_neg (by omega)]
    have row : ∀ j, j ≠ p → gR (sR (sI (sI (sR (nw S1 6 0) 81 (sz S1) 0 (some w)) 82 (sz S1) 0 (nI k)) 83 (sz S1) 0 (nI g)) 0 (x + 30) p (some (sz S1))) 0 (x + 30) j = gR S1 0 (x + 30) j := fun j hj => by
      rw [gR_sR, if_neg (by omega), gR_sI, gR_sI, gR_sR, if_neg (by omega), gR_nw, if_neg (by omega)]
    have rowp : gR (sR (sI (sI (sR (nw S1 6 0) 81 (sz S1) 0 (some w)) 82 (sz S1) 0 (nI k)) 83 (sz S1) 0 (nI g)) 0 (x + 30) p (some (sz S1))) 0 (x + 30) p = some (sz S1) := by
      rw [gR_sR, if_pos ⟨rfl, rfl, rfl⟩]
    have kz : kd (sR (sI (sI (sR (nw S1 6 0) 81 (sz S1) 0 (some w)) 82 (sz S1) 0 (nI k)) 83 (sz S1) 0 (nI g)) 0 (x + 30) p (some (sz S1))) (sz S1) = 6 := by
      rw [kd_sR, kd_sI, kd_sI, kd_sR, kd_nw, if_pos rfl]
    have hF1 : Fr (fun b => b ≠ x + 30 ∧ kd S1 b ≠ 0) S1 (sR (sI (sI (sR (nw S1 6 0) 81 (sz S1) 0 (some w)) 82 (sz S1) 0 (nI k)) 83 (sz S1) 0 (nI g)) 0 (x + 30) p (some (sz S1))) := by
      have hne : ¬ (fun b => b ≠ x + 30 ∧ kd S1 b ≠ 0) (sz S1) := fun ww => ww.2 hz1
      exact Fr_tr (Fr_nw hne hz1) (Fr_tr (Fr_sR hne) (Fr_tr (Fr_sI hne) (Fr_tr (Fr_sI hne) (Fr_sR (fun ww => ww.1 rfl)))))
    refine ⟨⟨(low _ _).trans (by rw [hq 2 (by omega) (by omega)]; exact l1), (low _ _).trans (by rw [hq 0 (by omega) (by omega)]; exact l2), (low _ _).trans (by rw [hq 1 (by omega) (by omega)]; exact l3)⟩, fun j hj => ?_, fun j hj => ?_⟩
    · by_cases hjp : j = p
      · subst hjp
        exact ⟨_, rowp, kz⟩
      · obtain ⟨b, hb, hb6⟩ := l4 j hj
        exact ⟨b, (row j hjp).trans hb, kd_fr hF1 (by decide) hb6⟩
    · rw [hq 2 (by omega) (by omega)] at hj
      have hlj := (hV.2.2.2.1 j hj).1.2
      have ec : ∀ i, i < σ.1 (3 + 15 * j) → q' (6 + 15 * j + i) = σ.1 (6 + 15 * j + i) := fun i hi => hq _ (by omega) (by omega)
      by_cases hjp : j = p
      · subst hjp
        obtain ⟨h0, h1, h2, h3, w', w1, w2, w3, w4⟩ := pp
        have eww : w = w' := Option.some.inj (hw.symm.trans w3.1)
        subst eww
        rw [h4, h5, hq _ (by omega) (by omega)]
        refine ⟨sz S1, rowp, hzz, kz, ?_, ?_, w, w1, w2, ⟨?_, ?_, ?_⟩, fun i hi => ?_⟩
        · rw [gI_sR, gI_sI, if_neg (by omega), gI_sI, if_pos ⟨rfl, rfl, rfl⟩]
        · rw [gI_sR, gI_sI, if_pos ⟨rfl, rfl, rfl⟩]
        · rw [gR_sR, if_neg (by omega), gR_sI, gR_sI, gR_sR, if_pos ⟨rfl, rfl, rfl⟩]
        · exact kd_fr hF1 (by decide) w3.2.1
        · exact ((hF1.1 w (by rw [w3.2.1]; decide)).2).trans w3.2.2
        · dsimp only
          rw [ec i hi]
          exact gI_fr hF1 ⟨by omega, by rw [w3.2.1]; decide⟩ (w4 i hi)
      · obtain ⟨b, hb, pb⟩ := l5 j hj
        rw [hq _ (by omega) (by omega), hq _ (by omega) (by omega), hq _ (by omega) (by omega)]
        exact ⟨b, (row j hjp).trans hb, PartAt_cg ec <| PartAt_fr hF1 (fun c hc hk0 _ => ⟨by omega, hk0⟩) (fun _ ww => ww) pb⟩
end CGEN
