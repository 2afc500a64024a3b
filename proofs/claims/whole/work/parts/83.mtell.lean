/-! ===== the reference: fault, tell ===== -/
section MTELL
variable {S : Hp} {mo : Nat} {σ : Sg} {f m c : Nat} {d : Int32} {g : Nat → Int32}
theorem M_clause95 {Q : Int32 → Hp → Prop} {v1 x3 : Int32} {w hi k : Nat} (h : RD S mo σ f m c d g) (hd : d = 0 ∨ d = 1) (hw : (w = 1 ∧ k = 0) ∨ (w = 2 ∧ k = 1)) (hv : v1 = nI w) (hhi : hi ≤ 40) (hx : x3 = nI hi)
    (h1 : nmOk σ.2.2.1 σ.2.2.2 f hi → ∀ S' g', RD S' mo (dS d σ (va_up σ.1 k (vl σ.2.2.1 σ.2.2.2 f))) (nF σ.2.2.1 σ.2.2.2 f) m c d g' → SO mo S S' → Q 1 S')
    (h0 : ¬ nmOk σ.2.2.1 σ.2.2.2 f hi → Q 0 S) : wp_X12_readsClause_95 Q mo v1 x3 1 0 mo S := by
  refine ⟨h.1.1.1, M_reads (k := 0) (hi := hi) h (by omega) hhi rfl rfl hx (fun hn S2 hR2 o2 => ⟨fun z => absurd z (by decide), fun _ => ⟨hR2.1.1.1, fun hz => ⟨Or.inr rfl, ?_⟩, fun hz => ⟨hR2.1.1.1, ?_⟩⟩⟩) (fun hn => ⟨fun _ => ⟨Or.inl rfl, h0 hn⟩, fun z => absurd rfl z⟩)⟩
  · rw [hR2.2.2.1.2.2] at hz
    subst hz
    rw [dS_0] at h1
    exact h1 hn S2 _ hR2 o2
  · rw [hR2.2.2.1.2.2] at hz
    have hd1 : d = 1 := hd.resolve_left hz
    subst hd1
    obtain ⟨kk, ⟨a1, a2, a3⟩, -, ⟨b1, b2, b3⟩, -⟩ := hR2.1.1
    have hg0 : gI S2 0 (mo + 3) (0 : Int32).toNatClampNeg = nI (vl σ.2.2.1 σ.2.2.2 f) := (hR2.2.2.2 0).trans (va_up_self _ _ _)
    have fin : ∀ s0 : Int32, s0 = nI k → wp_X12_readsClause_124 Q mo 1 s0 (gR S2 193 mo 0) S2 := by
      rintro _ rfl
      refine ⟨kk, _, b1, b2, by rw [b3]; exact vp_li (n := 0) (by omega) (by omega), _, a1, a2, by rw [a3]; exact vp_li (by omega) (by omega), ?_⟩
      rintro _ rfl
      rw [hg0, nI_clamp (by omega)]
      rw [dS_1] at h1
      exact ⟨Or.inr rfl, h1 hn _ _ (RD_upd hR2 (by omega)) (SO_tr o2 (SO_sI ⟨by omega, by omega⟩))⟩
    refine ⟨fun hne => fin 1 ?_, fun heq => fin 0 ?_⟩
    · rcases hw with ⟨rfl, rfl⟩ | ⟨rfl, rfl⟩
      · exact absurd hv hne
      · rfl
    · rcases hw with ⟨rfl, rfl⟩ | ⟨rfl, rfl⟩
      · rfl
      · rw [heq] at hv
        exact absurd hv (by decide)
theorem M_readsClause {Q : Int32 → Hp → Prop} (h : RD S mo σ f m c d g) (hd : d = 0 ∨ d = 1) (hm : m ≤ 6) (hdm : d = 1 → σ.1 2 = m)
    (h1 : ck σ.2.2.1 σ.2.2.2 f m ≠ 4 → ∀ S' g', RD S' mo (dS d σ (cq σ.2.2.1 σ.2.2.2 f σ.1)) (nF σ.2.2.1 σ.2.2.2 (cl σ.2.2.1 σ.2.2.2 f)) (cm σ.2.2.1 σ.2.2.2 f m) c d g' → SO mo S S' → Q 1 S')
    (h0 : ck σ.2.2.1 σ.2.2.2 f m = 4 → ∀ S' m' g', RD S' mo σ (cf σ.2.2.1 σ.2.2.2 f m) m' c d g' → SO mo S S' → Q 0 S') : wp_X12_readsClause mo S Q := by
  obtain ⟨hS, ⟨r1, r2, r3⟩, ⟨r4, r5, r6⟩, r7⟩ := id h
  have hno : (∀ v, v < 3 → ¬ wIs σ.2.2.1 σ.2.2.2 f v) → ¬ (wIs σ.2.2.1 σ.2.2.2 f 3 ∧ m < 6) → Q 0 S := by
    intro hv h3
    have n0 := hv 0 (by omega)
    have n1 := hv 1 (by omega)
    have n2 := hv 2 (by omega)
    refine h0 ?_ S m g ?_ (SO_rf mo S)
    · unfold ck
      rw [if_neg n0, if_neg n1, if_neg n2, if_neg h3]
    · unfold cf
      rw [if_neg n0, if_neg n1, if_neg n2, if_neg h3]
      exact h
  refine ⟨hS.1.1, m_wordHere (TX_of hS) hS.1.2.2.2.2.1 hS.2.2.2.2 r1 r2 r3 (fun w hw hi hlow => ⟨fun z => ?_, fun _ => ?_⟩) (fun hn => ⟨fun _ => hno (fun v hv => hn v (by omega)) (fun z => hn 3 (by omega) z.1), fun z => absurd rfl z⟩)⟩
  · have : w = 0 ∨ w = 1 ∨ w = 2 ∨ w = 3 := by omega
    rcases this with rfl | rfl | rfl | rfl <;> exact absurd z (by decide)
  · have hw4 : w = 0 ∨ w = 1 ∨ w = 2 ∨ w = 3 := by omega
    rcases hw4 with rfl | rfl | rfl | rfl
    · -- all
      have hck : ck σ.2.2.1 σ.2.2.2 f m = 0 := by unfold ck; rw [if_pos hi]
      have hcl : cl σ.2.2.1 σ.2.2.2 f = f := by unfold cl; rw [if_pos hi]
      have hcm : cm σ.2.2.1 σ.2.2.2 f m = 0 := by unfold cm; rw [if_pos hi]
      have hcq : cq σ.2.2.1 σ.2.2.2 f σ.1 = allR σ.1 := by unfold cq; rw [if_pos hi]
      rw [hck, hcl, hcm, hcq] at h1
      replace h1 := h1 (by omega)
      refine ⟨fun _ => ⟨hS.1.1, M_next h fun S1 hR1 o1 => ⟨fun _ => ⟨fun z => absurd rfl z, fun _ => ⟨hR1.1.1.1, ?_⟩⟩, fun z => absurd z (by decide)⟩⟩, fun z => absurd z (by decide)⟩
      rintro _ rfl
      have hR2 := RD_told (v := 0) hR1
      have o2 : SO mo S (sI S1 199 mo 0 (nI 0)) := SO_tr o1 (SO_sI ⟨by omega, by omega⟩)
      rw [li_0]
      generalize sI S1 199 mo 0 (nI 0) = S2 at *
      refine ⟨hR2.1.1.1, fun hz => ?_, fun hz => ?_⟩
      · rw [← li_0, hR2.2.2.1.2.2] at hz
        subst hz
        rw [dS_0] at h1
        exact h1 S2 _ hR2 o2
      · rw [← li_0, hR2.2.2.1.2.2] at hz
        have hd1 : d = 1 := hd.resolve_left hz
        subst hd1
        rw [dS_1] at h1
        refine m_rd 0 hR2.1.1 rfl (by omega) ?_
        rintro _ rfl
        have hR3 := RD_upd (k := 0) (v := 4) hR2 (by omega)
        refine m_rd 1 hR3.1.1 rfl (by omega) ?_
        rintro _ rfl
        have hR4 := RD_upd (k := 1) (v := 20) hR3 (by omega)
        refine m_rd 2 hR4.1.1 rfl (by omega) ?_
        rintro _ rfl
        exact h1 _ _ (RD_upd (k := 2) (v := 0) hR4 (by omega)) (SO_tr o2 (SO_tr (SO_sI ⟨by omega, by omega⟩) (SO_tr (SO_sI ⟨by omega, by omega⟩) (SO_sI ⟨by omega, by omega⟩))))
    · -- packets
      have n0 := hlow 0 (by omega)
      have hcl : cl σ.2.2.1 σ.2.2.2 f = nF σ.2.2.1 σ.2.2.2 f := by unfold cl; rw [if_neg n0, if_pos hi]
      have hcm : cm σ.2.2.1 σ.2.2.2 f m = m := by unfold cm; rw [if_neg n0, if_pos hi]
      have hcf : cf σ.2.2.1 σ.2.2.2 f m = nF σ.2.2.1 σ.2.2.2 f := by unfold cf; rw [if_neg n0, if_pos hi]
      have hcq : cq σ.2.2.1 σ.2.2.2 f σ.1 = va_up σ.1 0 (vl σ.2.2.1 σ.2.2.2 (nF σ.2.2.1 σ.2.2.2 f)) := by unfold cq; rw [if_neg n0, if_pos hi]
      rw [hcl, hcm, hcq] at h1
      rw [hcf] at h0
      refine ⟨fun _ => ⟨hS.1.1, M_next h fun S1 hR1 o1 => ⟨fun _ => ⟨fun _ => ⟨fun z => absurd rfl z, fun _ => ?_⟩, fun z => absurd z (by decide)⟩, fun z => absurd z (by decide)⟩⟩, fun z => absurd z (by decide)⟩
      refine M_clause95 (w := 1) (k := 0) (hi := 8) hR1 hd (Or.inl ⟨rfl, rfl⟩) rfl (by omega) rfl (fun hn S' g' hR' o' => h1 ?_ S' g' hR' (SO_tr o1 o')) (fun hn => h0 ?_ S1 _ _ hR1 o1)
      · unfold ck
        rw [if_neg n0, if_pos hi, if_pos hn]
        omega
      · unfold ck
        rw [if_neg n0, if_pos hi, if_neg hn]
    · -- room
      have n0 := hlow 0 (by omega)
      have n1 := hlow 1 (by omega)
      have hcl : cl σ.2.2.1 σ.2.2.2 f = nF σ.2.2.1 σ.2.2.2 f := by unfold cl; rw [if_neg n0, if_neg n1, if_pos hi]
      have hcm : cm σ.2.2.1 σ.2.2.2 f m = m := by unfold cm; rw [if_neg n0, if_neg n1, if_pos hi]
      have hcf : cf σ.2.2.1 σ.2.2.2 f m = nF σ.2.2.1 σ.2.2.2 f := by unfold cf; rw [if_neg n0, if_neg n1, if_pos hi]
      have hcq : cq σ.2.2.1 σ.2.2.2 f σ.1 = va_up σ.1 1 (vl σ.2.2.1 σ.2.2.2 (nF σ.2.2.1 σ.2.2.2 f)) := by unfold cq; rw [if_neg n0, if_neg n1, if_pos hi]
      rw [hcl, hcm, hcq] at h1
      rw [hcf] at h0
      refine ⟨fun _ => ⟨hS.1.1, M_next h fun S1 hR1 o1 => ⟨fun _ => ⟨fun _ => ⟨fun _ => ?_, fun z => absurd z (by decide)⟩, fun z => absurd z (by decide)⟩, fun z => absurd z (by decide)⟩⟩, fun z => absurd z (by decide)⟩
      refine M_clause95 (w := 2) (k := 1) (hi := 40) hR1 hd (Or.inr ⟨rfl, rfl⟩) rfl (by omega) rfl (fun hn S' g' hR' o' => h1 ?_ S' g' hR' (SO_tr o1 o')) (fun hn => h0 ?_ S1 _ _ hR1 o1)
      · unfold ck
        rw [if_neg n0, if_neg n1, if_pos hi, if_pos hn]
        omega
      · unfold ck
        rw [if_neg n0, if_neg n1, if_pos hi, if_neg hn]
    · -- part
      have n0 := hlow 0 (by omega)
      have n1 := hlow 1 (by omega)
      have n2 := hlow 2 (by omega)
      refine ⟨fun z => absurd rfl z, fun _ => ⟨hS.1.1, fun h6 => ⟨hS.1.1, M_next h fun S1 hR1 o1 => ⟨fun z => absurd rfl z, fun _ => ⟨hR1.1.1.1, ?_⟩⟩⟩, fun h6 => hno hlow (fun z => ?_)⟩⟩
      · rw [r4, li_6, nI_ne (by omega) (by omega)] at h6
        have h3 : wIs σ.2.2.1 σ.2.2.2 f 3 ∧ m < 6 := ⟨hi, by omega⟩
        have hcl : cl σ.2.2.1 σ.2.2.2 f = nF σ.2.2.1 σ.2.2.2 (nF σ.2.2.1 σ.2.2.2 (nF σ.2.2.1 σ.2.2.2 f)) := by unfold cl; rw [if_neg n0, if_neg n1, if_neg n2]
        have hcm : cm σ.2.2.1 σ.2.2.2 f m = m + 1 := by unfold cm; rw [if_neg n0, if_neg n1, if_neg n2]
        have hcq : cq σ.2.2.1 σ.2.2.2 f σ.1 = partR σ.2.2.1 (nF σ.2.2.1 σ.2.2.2 f) (tE σ.2.2.1 σ.2.2.2 (nF σ.2.2.1 σ.2.2.2 f) - nF σ.2.2.1 σ.2.2.2 f) (vl σ.2.2.1 σ.2.2.2 (nF σ.2.2.1 σ.2.2.2 (nF σ.2.2.1 σ.2.2.2 f))) (vl σ.2.2.1 σ.2.2.2 (nF σ.2.2.1 σ.2.2.2 (nF σ.2.2.1 σ.2.2.2 (nF σ.2.2.1 σ.2.2.2 f)))) σ.1 := by unfold cq; rw [if_neg n0, if_neg n1, if_neg n2]
        rw [hcl, hcm, hcq] at h1
        unfold ck at h1 h0
        unfold cf at h0
        rw [if_neg n0, if_neg n1, if_neg n2, if_pos h3] at h1
        rw [if_neg n0, if_neg n1, if_neg n2, if_pos h3, if_neg n0, if_neg n1, if_neg n2, if_pos h3] at h0
        refine M_readsPart hR1 hd (by omega) hdm (fun a1 a2 a3 S' g' hR' o' => ⟨Or.inr rfl, ?_⟩) (fun a1 => ⟨Or.inl rfl, ?_⟩) (fun a1 a2 S' g' hR' o' => ⟨Or.inl rfl, ?_⟩) (fun a1 a2 a3 S' g' hR' o' => ⟨Or.inl rfl, ?_⟩)
        · rw [if_pos a1, if_pos a2, if_pos a3] at h1
          exact h1 (by omega) S' g' hR' (SO_tr o1 o')
        · rw [if_neg a1, if_neg a1] at h0
          exact h0 rfl S1 _ _ hR1 o1
        · rw [if_pos a1, if_neg a2, if_pos a1, if_neg a2] at h0
          exact h0 rfl S' _ _ hR' (SO_tr o1 o')
        · rw [if_pos a1, if_pos a2, if_neg a3, if_pos a1, if_pos a2] at h0
          exact h0 rfl S' _ _ hR' (SO_tr o1 o')
      · rw [r4, li_6, nI_eq (by omega) (by omega)] at h6
        omega
def pNG (T : Nat → Nat) (L k g : Nat) : Nat := if g < L then (if k = 0 then 0 else pN T L (k - 1) (nF T L g)) else 0
def pQG (T : Nat → Nat) (L k g : Nat) (q : Nat → Nat) : Nat → Nat := if g < L then (if k = 0 then q else pQ T L (k - 1) (nF T L g) q) else q
theorem pN_eq (T : Nat → Nat) (L k f : Nat) : pN T L k f = pNG T L k (nF T L (cl T L f)) + 1 := by
  cases k with
  | zero =>
    rw [pN]
    unfold pNG
    rw [if_pos rfl]
    split <;> rfl
  | succ n =>
    rw [pN]
    unfold pNG
    rw [if_neg (Nat.succ_ne_zero n), Nat.add_sub_cancel]
    split <;> rfl
theorem pQ_eq (T : Nat → Nat) (L k f : Nat) (q : Nat → Nat) : pQ T L k f q = pQG T L k (nF T L (cl T L f)) (cq T L f q) := by
  cases k with
  | zero =>
    rw [pQ]
    unfold pQG
    rw [if_pos rfl]
    split <;> rfl
  | succ n =>
    rw [pQ]
    unfold pQG
    rw [if_neg (Nat.succ_ne_zero n), Nat.add_sub_cancel]
theorem dS_dS {q : Nat → Nat} (hd : d = 0 ∨ d = 1) : dS d (dS d σ q) (cq σ.2.2.1 σ.2.2.2 f (dS d σ q).1) = dS d σ (cq σ.2.2.1 σ.2.2.2 f q) := by
  rcases hd with rfl | rfl
  · rw [dS_0, dS_0, dS_0]
  · rw [dS_1, dS_1, dS_1]
theorem M_readsAll {Q : Int32 → Hp → Prop} (hS : MS S mo σ) (h6 : σ.1 2 ≤ 6) (hd : d = 0 ∨ (d = 1 ∧ pF σ.2.2.1 σ.2.2.2 23 (tF σ.2.2.1 σ.2.2.2 0) (σ.1 2) = none))
    (h1 : pF σ.2.2.1 σ.2.2.2 23 (tF σ.2.2.1 σ.2.2.2 0) (σ.1 2) = none → ∀ S', MS S' mo (dS d σ (pQ σ.2.2.1 σ.2.2.2 23 (tF σ.2.2.1 σ.2.2.2 0) σ.1)) → gI S' 200 mo 0 = nI (pN σ.2.2.1 σ.2.2.2 23 (tF σ.2.2.1 σ.2.2.2 0)) → SO mo S S' → Q 1 S')
    (h0 : ∀ p, d = 0 → pF σ.2.2.1 σ.2.2.2 23 (tF σ.2.2.1 σ.2.2.2 0) (σ.1 2) = some p → ∀ S', MS S' mo σ → gI S' 197 mo 0 = nI p → SO mo S S' → Q 0 S') : wp_X12_readsAll mo d S Q := by
  have hd2 : d = 0 ∨ d = 1 := hd.imp id And.left
  refine ⟨hS.1.1, hd2, ?_⟩
  rintro _ rfl
  refine ⟨hS.1.1, ?_⟩
  rintro _ rfl
  refine ⟨hS.1.1, ?_⟩
  rintro _ rfl
  have hS3 : MS (sI (sI (sI S 201 mo 0 d) 198 mo 0 0) 200 mo 0 1) mo σ := MS_fld (MS_fld (MS_fld hS (by omega) (by omega) (by omega)) (by omega) (by omega) (by omega)) (by omega) (by omega) (by omega)
  obtain ⟨kk, ⟨a1, a2, a3⟩, -⟩ := hS.1
  refine ⟨kk, _, a1, a2, by show vp_in _ (ln S (mo + 1)); rw [a3]; exact vp_li (n := 2) (by omega) (by omega), kk, ?_⟩
  rintro _ rfl
  rw [m_rv 2 hS3.2.1 li_2 (by omega)]
  have hS5 : MS (sI (sI (sI (sI S 201 mo 0 d) 198 mo 0 0) 200 mo 0 1) 199 mo 0 (nI (σ.1 2))) mo σ := MS_fld hS3 (by omega) (by omega) (by omega)
  have e198 : gI (sI (sI (sI (sI S 201 mo 0 d) 198 mo 0 0) 200 mo 0 1) 199 mo 0 (nI (σ.1 2))) 198 mo 0 = nI 0 := by
    rw [gI_sI, if_neg (by omega), gI_sI, if_neg (by omega), gI_sI, if_pos ⟨rfl, rfl, rfl⟩]
    rfl
  have e199 : gI (sI (sI (sI (sI S 201 mo 0 d) 198 mo 0 0) 200 mo 0 1) 199 mo 0 (nI (σ.1 2))) 199 mo 0 = nI (σ.1 2) := by
    rw [gI_sI, if_pos ⟨rfl, rfl, rfl⟩]
  have e200 : gI (sI (sI (sI (sI S 201 mo 0 d) 198 mo 0 0) 200 mo 0 1) 199 mo 0 (nI (σ.1 2))) 200 mo 0 = nI 1 := by
    rw [gI_sI, if_neg (by omega), gI_sI, if_pos ⟨rfl, rfl, rfl⟩]
    rfl
  have e201 : gI (sI (sI (sI (sI S 201 mo 0 d) 198 mo 0 0) 200 mo 0 1) 199 mo 0 (nI (σ.1 2))) 201 mo 0 = d := by
    rw [gI_sI, if_neg (by omega), gI_sI, if_neg (by omega), gI_sI, if_neg (by omega), gI_sI, if_pos ⟨rfl, rfl, rfl⟩]
  have o5 : SO mo S (sI (sI (sI (sI S 201 mo 0 d) 198 mo 0 0) 200 mo 0 1) 199 mo 0 (nI (σ.1 2))) := SO_tr (SO_sI ⟨by omega, by omega⟩) (SO_tr (SO_sI ⟨by omega, by omega⟩) (SO_tr (SO_sI ⟨by omega, by omega⟩) (SO_sI ⟨by omega, by omega⟩)))
  generalize sI (sI (sI (sI S 201 mo 0 d) 198 mo 0 0) 200 mo 0 1) 199 mo 0 (nI (σ.1 2)) = S5 at *
  have hf0 : tF σ.2.2.1 σ.2.2.2 0 ≤ σ.2.2.2 := tF_le (Nat.zero_le _)
  generalize hF0 : tF σ.2.2.1 σ.2.2.2 0 = f0 at *
  refine ⟨hS5.1.1, m_next (TX_of hS5) e198 (Nat.zero_le _) ?_⟩
  rw [hF0]
  have hR7 : RD (N2 S5 mo f0 (tE σ.2.2.1 σ.2.2.2 f0)) mo (dS d σ σ.1) f0 (σ.1 2) 1 d (fun k => gI (N2 S5 mo f0 (tE σ.2.2.1 σ.2.2.2 f0)) 0 (mo + 3) k) := by
    have : dS d σ σ.1 = σ := by
      unfold dS
      split <;> rfl
    rw [this]
    exact ⟨MS_fld (MS_fld hS5 (by omega) (by omega) (by omega)) (by omega) (by omega) (by omega), ⟨N2_197, N2_198, hf0⟩, ⟨(N2_o (by omega) (by omega)).trans e199, (N2_o (by omega) (by omega)).trans e200, (N2_o (by omega) (by omega)).trans e201⟩, fun k => rfl⟩
  have o7 : SO mo S (N2 S5 mo f0 (tE σ.2.2.1 σ.2.2.2 f0)) := SO_tr o5 N2_SO
  generalize (fun k => gI (N2 S5 mo f0 (tE σ.2.2.1 σ.2.2.2 f0)) 0 (mo + 3) k) = g7 at hR7
  generalize N2 S5 mo f0 (tE σ.2.2.1 σ.2.2.2 f0) = S7 at *
  generalize hp : pF σ.2.2.1 σ.2.2.2 23 f0 (σ.1 2) = pf at *
  generalize hpn : pN σ.2.2.1 σ.2.2.2 23 f0 = pn at *
  generalize hpq : pQ σ.2.2.1 σ.2.2.2 23 f0 σ.1 = pq at *
  -- a clause, wherever it stands
  have step : ∀ (S1 : Hp) (f k c e : Nat) (q : Nat → Nat) (g : Nat → Int32) (R : Int32 → Hp → Prop), RD S1 mo (dS d σ q) f (q 2) c d g → SO mo S S1 → q 2 ≤ 6 → pF σ.2.2.1 σ.2.2.2 k f (q 2) = pf → pN σ.2.2.1 σ.2.2.2 k f + e = pn → pQ σ.2.2.1 σ.2.2.2 k f q = pq → (∀ S' q' g', RD S' mo (dS d σ q') (nF σ.2.2.1 σ.2.2.2 (cl σ.2.2.1 σ.2.2.2 f)) (q' 2) c d g' → SO mo S S' → q' 2 ≤ 6 → pG σ.2.2.1 σ.2.2.2 k (nF σ.2.2.1 σ.2.2.2 (cl σ.2.2.1 σ.2.2.2 f)) (q' 2) = pf → pNG σ.2.2.1 σ.2.2.2 k (nF σ.2.2.1 σ.2.2.2 (cl σ.2.2.1 σ.2.2.2 f)) + 1 + e = pn → pQG σ.2.2.1 σ.2.2.2 k (nF σ.2.2.1 σ.2.2.2 (cl σ.2.2.1 σ.2.2.2 f)) q' = pq → R 1 S') → (∀ S' p, pf = some p → MS S' mo σ → d = 0 → gI S' 197 mo 0 = nI p → gI S' 200 mo 0 = nI c → SO mo S S' → R 0 S') → wp_X12_readsClause mo S1 R := by
    intro S1 f k c e q g R hR o hq hpf hpn' hpq' k1 k0
    have hT : (dS d σ q).2 = σ.2 := rfl
    have hdm : d = 1 → (dS d σ q).1 2 = q 2 := fun e => by rw [e, dS_1]
    refine M_readsClause hR hd2 hq hdm (fun hck S' g' hR' o' => ?_) (fun hck S' m' g' hR' o' => ?_)
    · rw [hT, dS_dS hd2] at hR'
      rw [hT] at hck
      have e2 : cm σ.2.2.1 σ.2.2.2 f (q 2) = cq σ.2.2.1 σ.2.2.2 f q 2 := cq_2.symm
      rw [pF_eq, if_neg hck, e2] at hpf
      rw [pN_eq] at hpn'
      rw [pQ_eq] at hpq'
      have hle := cm_le hq hck
      rw [e2] at hR' hle
      exact k1 S' _ g' hR' (SO_tr o o') hle hpf (by omega) hpq'
    · rw [hT] at hck hR'
      rw [pF_eq, if_pos hck] at hpf
      have hd0 : d = 0 := by
        rcases hd with e | ⟨_, e⟩
        · exact e
        · rw [e] at hpf
          cases hpf
      subst hd0
      rw [dS_0] at hR'
      exact k0 S' _ hpf.symm hR'.1 rfl hR'.2.1.1 hR'.2.2.1.2.1 (SO_tr o o')
  -- the loop
  have zero : ∀ p, pf = some p → d = 0 := fun p hpp => by
    rcases hd with e | ⟨_, e⟩
    · exact e
    · rw [e] at hpp
      cases hpp
  have loop : ∀ (n : Nat) (v2 : Int32) (S9 : Hp), ((∃ k g q gg, n = k + 1 ∧ v2 = 1 ∧ RD S9 mo (dS d σ q) g (q 2) (24 - k) d gg ∧ SO mo S S9 ∧ q 2 ≤ 6 ∧ k ≤ 23 ∧ pG σ.2.2.1 σ.2.2.2 k g (q 2) = pf ∧ pNG σ.2.2.1 σ.2.2.2 k g + (24 - k) = pn ∧ pQG σ.2.2.1 σ.2.2.2 k g q = pq) ∨ (n = 0 ∧ v2 = 0 ∧ ∃ p, pf = some p ∧ MS S9 mo σ ∧ gI S9 197 mo 0 = nI p ∧ SO mo S S9)) → wp_X12_readsAll_34 Q mo v2 S9 := by
    intro n v2 S9 hI
    refine Lp_of (fun n y => (∃ k g q gg, n = k + 1 ∧ y.1 = 1 ∧ RD y.2 mo (dS d σ q) g (q 2) (24 - k) d gg ∧ SO mo S y.2 ∧ q 2 ≤ 6 ∧ k ≤ 23 ∧ pG σ.2.2.1 σ.2.2.2 k g (q 2) = pf ∧ pNG σ.2.2.1 σ.2.2.2 k g + (24 - k) = pn ∧ pQG σ.2.2.1 σ.2.2.2 k g q = pq) ∨ (n = 0 ∧ y.1 = 0 ∧ ∃ p, pf = some p ∧ MS y.2 mo σ ∧ gI y.2 197 mo 0 = nI p ∧ SO mo S y.2)) (fun n y hy K hK => ?_) (n := n) (x := (v2, S9)) hI
    clear hI
    obtain ⟨v2, S9⟩ := y
    dsimp only at hy ⊢
    rcases hy with ⟨k, g, q, gg, rfl, rfl, hR, o, hq, hk, hpG, hpNG, hpQG⟩ | ⟨rfl, rfl, p, hpp, hM, h197, o⟩
    · obtain ⟨hS9, ⟨r1, r2, r3⟩, ⟨r4, r5, r6⟩, r7⟩ := id hR
      obtain ⟨q0, ⟨t2, k2, l2⟩, ht1, ht2, ht3⟩ := TX_of hS9
      have hT : (dS d σ q).2 = σ.2 := rfl
      rw [hT] at ht1 ht2 ht3 r2 r3
      refine ⟨fun z => absurd z (by decide), fun _ => ⟨q0, q0, fun hc => ⟨Or.inr rfl, ?_⟩, fun hc => ?_⟩⟩
      · rw [r1, ht1, nI_leI (by omega) (by omega)] at hc
        unfold pG at hpG
        unfold pNG at hpNG
        unfold pQG at hpQG
        rw [if_neg (by omega)] at hpG hpNG hpQG
        rw [Nat.zero_add] at hpNG
        rw [hpQG] at hS9
        rw [hpNG] at r5
        exact h1 hpG.symm S9 hS9 r5 o
      · rw [r1, ht1, nI_leI (by omega) (by omega)] at hc
        have hgL : g < σ.2.2.2 := by omega
        unfold pG at hpG
        unfold pNG at hpNG
        unfold pQG at hpQG
        rw [if_pos hgL] at hpG hpNG hpQG
        have bad : pf = some g → wp_X12_readsAll_76 (fun w0 w1 => K (w0, w1)) Q mo S9 := fun hpp => by
          have hd0 := zero g hpp
          refine ⟨fun _ => hK _ 0 (by omega) (Or.inr ⟨rfl, rfl, g, hpp, ?_, r1, o⟩), fun z => absurd rfl z⟩
          rw [hd0, dS_0] at hS9
          exact hS9
        refine ⟨q0, fun h24 => bad ?_, fun h24 => ⟨q0, q0, _, t2, k2, ?_, fun hne => bad ?_, fun heq => ?_⟩⟩
        · rw [r5, li_24, nI_leI (by omega) (by omega)] at h24
          rw [if_pos (by omega)] at hpG
          exact hpG.symm
        · rw [r1, l2]
          exact vp_li (by omega) (by omega)
        · rw [r5, li_24, nI_leI (by omega) (by omega)] at h24
          have h255 := (ht3 g hgL).2
          rw [r1, nI_clamp (by omega), (ht3 g hgL).1, li_59, nI_ne (by omega) (by omega)] at hne
          rw [if_neg (by omega), if_neg hne] at hpG
          exact hpG.symm
        · rw [r5, li_24, nI_leI (by omega) (by omega)] at h24
          have h255 := (ht3 g hgL).2
          rw [r1, nI_clamp (by omega), (ht3 g hgL).1, li_59, nI_eq (by omega) (by omega)] at heq
          rw [if_neg (by omega), if_pos heq] at hpG
          rw [if_neg (by omega)] at hpNG hpQG
          refine ⟨fun z => absurd z (by decide), fun _ => ⟨q0, M_next hR fun S1 hR1 o1 => ⟨hR1.1.1.1, ?_⟩⟩⟩
          refine step S1 _ (k - 1) (24 - k) (24 - k) q gg _ hR1 (SO_tr o o1) hq hpG hpNG hpQG (fun S' q' g' hR' o' hq' e1 e2 e3 => ⟨hR'.1.1.1, hR'.1.1.1, ?_⟩) (fun S' p hpp hM' hd0 h197 h200 o' => ⟨hM'.1.1, hM'.1.1, ?_⟩)
          · rintro _ rfl
            rw [hR'.2.2.1.2.1, nI_1]
            refine hK _ (k - 1 + 1) (by omega) (Or.inl ⟨k - 1, _, q', g', rfl, rfl, ?_, SO_tr o' (SO_sI ⟨by omega, by omega⟩), hq', by omega, e1, by omega, e3⟩)
            have := RD_clauses (v := 24 - (k - 1)) hR'
            rw [show 24 - k + 1 = 24 - (k - 1) by omega]
            exact this
          · rintro _ rfl
            refine hK _ 0 (by omega) (Or.inr ⟨rfl, rfl, p, hpp, MS_fld hM' (by omega) (by omega) (by omega), ?_, SO_tr o' (SO_sI ⟨by omega, by omega⟩)⟩)
            show gI (sI S' 200 mo 0 _) 197 mo 0 = _
            rw [gI_sI, if_neg (by omega)]
            exact h197
    · exact ⟨fun _ => ⟨Or.inl rfl, h0 p (zero p hpp) hpp S9 hM h197 o⟩, fun z => absurd rfl z⟩
  refine ⟨hR7.1.1.1, step S7 f0 23 1 0 σ.1 g7 _ hR7 o7 h6 hp hpn hpq (fun S' q' g' hR' o' hq' e1 e2 e3 => ?_) (fun S' p hpp hM' hd0 h197 h200 o' => ?_)⟩
  · exact loop (23 + 1) 1 S' (Or.inl ⟨23, _, q', g', rfl, rfl, hR', o', hq', Nat.le_refl _, e1, by omega, e3⟩)
  · exact loop 0 0 S' (Or.inr ⟨rfl, rfl, p, hpp, hM', h197, o'⟩)
/-- what fault and tell answer -/
def ftl (σ : Sg) : Option Nat := pF σ.2.2.1 σ.2.2.2 23 (tF σ.2.2.1 σ.2.2.2 0) (σ.1 2)
def oFault (σ : Sg) : Int32 := match ftl σ with
  | none => -1
  | some p => nI p
def oTell (σ : Sg) : Int32 × Sg := match ftl σ with
  | none => (nI (pN σ.2.2.1 σ.2.2.2 23 (tF σ.2.2.1 σ.2.2.2 0)), (pQ σ.2.2.1 σ.2.2.2 23 (tF σ.2.2.1 σ.2.2.2 0) σ.1, [], σ.2.2.1, 0))
  | some _ => (-4, σ)
theorem M_fault {Q : Int32 → Hp → Prop} (hS : MS S mo σ) (hV : V σ.1) (h : ∀ S', MS S' mo σ → SO mo S S' → Q (oFault σ) S') : wp_X12_fault mo S Q := by
  unfold oFault at h
  refine ⟨hS.1.1, M_readsAll (d := 0) hS hV.2.2.1 (Or.inl rfl) (fun hp S' hS' _ o' => ⟨fun z => absurd z (by decide), fun _ => ?_⟩) (fun p _ hp S' hS' h197 o' => ⟨fun _ => ⟨hS'.1.1, ?_⟩, fun z => absurd rfl z⟩)⟩
  · rw [show ftl σ = none from hp] at h
    rw [dS_0] at hS'
    exact h S' hS' o'
  · rw [show ftl σ = some p from hp] at h
    show Q (gI S' 197 mo 0) S'
    rw [h197]
    exact h S' hS' o'
theorem M_tell {Q : Int32 → Hp → Prop} (hS : MS S mo σ) (hV : V σ.1) (h : ∀ S', MS S' mo (oTell σ).2 → SO mo S S' → Q (oTell σ).1 S') : wp_X12_tell mo S Q := by
  unfold oTell at h
  refine ⟨hS.1.1, M_readsAll (d := 0) hS hV.2.2.1 (Or.inl rfl) (fun hp S1 hS1 _ o1 => ⟨fun _ => ?_, fun z => absurd z (by decide)⟩) (fun p _ hp S' hS' h197 o' => ⟨fun z => absurd rfl z, fun _ => ?_⟩)⟩
  · rw [show ftl σ = none from hp] at h
    rw [dS_0] at hS1
    refine ⟨hS1.1.1, M_readsAll (d := 1) hS1 hV.2.2.1 (Or.inr ⟨rfl, hp⟩) (fun _ S2 hS2 h200 o2 => ⟨hS2.1.1, ?_⟩) (fun p hd _ => absurd hd (by decide))⟩
    rw [dS_1] at hS2
    rintro _ rfl
    refine ⟨hS2.1.1, ?_⟩
    rintro _ rfl
    refine ⟨hS2.1.1, ?_⟩
    have e : gI (sI (sI S2 196 mo 0 0) 194 mo 0 0) 200 mo 0 = nI (pN σ.2.2.1 σ.2.2.2 23 (tF σ.2.2.1 σ.2.2.2 0)) := by
      rw [gI_sI, if_neg (by omega), gI_sI, if_neg (by omega)]
      exact h200
    rw [e]
    obtain ⟨hM, hR, ⟨hu, hu8, hus⟩, ⟨ht1, ht2, ht3⟩, hw⟩ := hS2
    refine h _ ⟨hM, fun i hi => ?_, ⟨?_, Nat.zero_le _, fun j u hj => ?_⟩, ⟨?_, Nat.zero_le _, fun i hi => absurd hi (Nat.not_lt_zero i)⟩, fun i hi => ?_⟩ (SO_tr o1 (SO_tr o2 (SO_tr (SO_sI ⟨by omega, by omega⟩) (SO_sI ⟨by omega, by omega⟩))))
    · rw [gI_sI, if_neg (by omega), gI_sI, if_neg (by omega)]
      exact hR i hi
    · rw [gI_sI, if_pos ⟨rfl, rfl, rfl⟩]
      rfl
    · cases hj
    · rw [gI_sI, if_neg (by omega), gI_sI, if_pos ⟨rfl, rfl, rfl⟩]
      rfl
    · rw [gI_sI, if_neg (by omega), gI_sI, if_neg (by omega)]
      exact hw i hi
  · rw [show ftl σ = some p from hp] at h
    exact h S' hS' o'
end MTELL
