/-! ===== the calls, as rows of numbers ===== -/
abbrev okN (x : Int32) (n : Nat) : Prop := 0 ≤ x.toInt ∧ x.toInt < n
abbrev okB (x : Int32) (a b : Nat) : Prop := (a : Int) ≤ x.toInt ∧ x.toInt ≤ b
def tn (x : Int32) : Nat := x.toInt.toNat
theorem tn_nI {j : Nat} (h : j < 2 ^ 31) : tn (nI j) = j := by
  unfold tn
  rw [nI_toInt h]
  rfl
theorem okN_nI {j n : Nat} (h : j < 2 ^ 31) : okN (nI j) n ↔ j < n := by
  unfold okN
  rw [nI_toInt h]
  omega
theorem okB_nI {j a b : Nat} (h : j < 2 ^ 31) : okB (nI j) a b ↔ a ≤ j ∧ j ≤ b := by
  unfold okB
  rw [nI_toInt h]
  omega
theorem okN_vp {x : Int32} {n : Nat} : vp_in x n ↔ okN x n := vp_in_iff
def oWrite (σ : Sg) (x : Int32) : Int32 × Sg := if okB x 0 255 then (if σ.2.2.2 = 200 then (-5, σ) else (nI (σ.2.2.2 + 1), (σ.1, σ.2.1, va_up σ.2.2.1 σ.2.2.2 (tn x), σ.2.2.2 + 1))) else (-3, σ)
def oErase (σ : Sg) : Int32 × Sg := (nI σ.2.2.2, (σ.1, σ.2.1, σ.2.2.1, 0))
def oPackets (σ : Sg) (n : Int32) : Int32 × Sg := if okB n 1 8 then (nI (σ.1 0), push σ (va_up σ.1 0 (tn n))) else (-3, σ)
def oRoom (σ : Sg) (n : Int32) : Int32 × Sg := if okB n 1 40 then (nI (σ.1 1), push σ (va_up σ.1 1 (tn n))) else (-3, σ)
def oNeed (σ : Sg) (p k : Int32) : Int32 × Sg := if okN p (σ.1 2) then (if okB k 1 8 then (nI (σ.1 (4 + 15 * tn p)), push σ (va_up σ.1 (4 + 15 * tn p) (tn k))) else (-3, σ)) else (-2, σ)
def oWeigh (σ : Sg) (p k : Int32) : Int32 × Sg := if okN p (σ.1 2) then (if okB k 1 9 then (nI (σ.1 (5 + 15 * tn p)), push σ (va_up σ.1 (5 + 15 * tn p) (tn k))) else (-3, σ)) else (-2, σ)
def dropR (q : Nat → Nat) (p : Nat) : Nat → Nat := fun k => if k = 2 then q 2 - 1 else if 3 + 15 * p ≤ k ∧ k < 3 + 15 * (q 2 - 1) then q (k + 15) else q k
def oDrop (σ : Sg) (p : Int32) : Int32 × Sg := if okN p (σ.1 2) then (nI (σ.1 2 - 1), push σ (dropR σ.1 (tn p))) else (-2, σ)
def oLose (σ : Sg) (t : Int32) : Int32 × Sg := if okN t (σ.1 94) then (if σ.1 (114 + tn t) = 1 then (-4, σ) else (nI (σ.1 (122 + tn t)), push σ (va_up σ.1 (114 + tn t) 1))) else (-2, σ)
def oCut (σ : Sg) (t m : Int32) : Int32 × Sg := if okN t (σ.1 94) then (if okB m 0 (σ.1 (122 + tn t)) then (if σ.1 (114 + tn t) = 1 then (-4, σ) else (nI (σ.1 (122 + tn t) - tn m), push σ (va_up σ.1 (122 + tn t) (tn m)))) else (-3, σ)) else (-2, σ)
abbrev has (q : Nat → Nat) (t i : Nat) : Prop := q (114 + t) = 0 ∧ i < q (122 + t)
def oSpoil (σ : Sg) (t i v : Int32) : Int32 × Sg := if okN t (σ.1 94) ∧ okN i (σ.1 (122 + tn t)) ∧ σ.1 (114 + tn t) = 0 then (if okB v 0 28 then (nI (σ.1 (450 + 40 * tn t + tn i)), push σ (va_up σ.1 (450 + 40 * tn t + tn i) (tn v))) else (-3, σ)) else (-2, σ)
def agN (q : Nat → Nat) (t : Nat) : Nat → Nat
  | 0 => 0
  | i + 1 => agN q t i + (if ¬ has q t i ∨ q (450 + 40 * t + i) ≠ q (130 + 40 * t + i) then 1 else 0)
def agR (q : Nat → Nat) (t : Nat) : Nat → Nat := fun k => if 450 + 40 * t ≤ k ∧ k < 450 + 40 * t + q 95 then q (k - 320) else if k = 114 + t then 0 else if k = 122 + t then q 95 else q k
def oAgain (σ : Sg) (t : Int32) : Int32 × Sg := if okN t (σ.1 94) then (nI (agN σ.1 (tn t) (σ.1 95)), push σ (agR σ.1 (tn t))) else (-2, σ)
def oUndo (σ : Sg) : Int32 × Sg := match σ.2.1 with
  | [] => (-4, σ)
  | u :: us => (nI us.length, (u, us, σ.2.2))
def oPart (q : Nat → Nat) (p w : Int32) : Int32 := if okN p (q 2) then (if okB w 0 2 then nI (q (3 + 15 * tn p + tn w)) else if w = 3 then nI (sP q (tn p)) else -3) else -2
def oLetter (q : Nat → Nat) (p i : Int32) : Int32 := if okN p (q 2) ∧ okN i (q (3 + 15 * tn p)) then nI (q (6 + 15 * tn p + tn i)) else -2
def oNumber (q : Nat → Nat) (t i : Int32) : Int32 := if okN t (q 94) ∧ okN i (q 95) then (if q (114 + tn t) = 0 ∧ okN i (q (122 + tn t)) then nI (q (450 + 40 * tn t + tn i)) else -1) else -2
section MOPS
variable {S : Hp} {mo : Nat} {σ : Sg}
theorem MS_upd {k v : Nat} (hS : MS S mo σ) (hk : k < 770) : MS (sI S 0 (mo + 1) k (nI v)) mo (va_up σ.1 k v, σ.2) := by
  obtain ⟨hM, hR, ⟨hu, hu8, hus⟩, ⟨ht1, ht2, ht3⟩, hw⟩ := hS
  refine ⟨hM, fun i hi => ?_, ⟨?_, hu8, fun j u hj i hi => ?_⟩, ⟨?_, ht2, fun i hi => ?_⟩, fun i hi => ?_⟩
  · rw [gI_sI]
    unfold va_up
    by_cases h : i = k
    · subst h
      simp
    · simp [h]
      exact hR i hi
  · rw [gI_sI, if_neg (by omega)]
    exact hu
  · have hj2 := (List.getElem?_eq_some_iff.mp hj).1
    rw [gI_sI, if_neg (by omega)]
    exact hus j u hj i hi
  · rw [gI_sI, if_neg (by omega)]
    exact ht1
  · rw [gI_sI, if_neg (by omega)]
    exact ht3 i hi
  · rw [gI_sI, if_neg (by omega)]
    exact hw i hi
theorem M_changes {Q : Int32 → Hp → Prop} {k v : Nat} (hS : MS S mo σ) (hk : k < 770) (h : ∀ S', MS S' mo (push σ (va_up σ.1 k v)) → SO mo S S' → Q (nI (σ.1 k)) S') : wp_X12_changes mo (nI k) (nI v) S Q := by
  refine ⟨hS.1.1, M_notes hS fun S1 h1 o1 => ?_⟩
  have hr : MR S1 mo σ.1 := h1.2.1
  refine m_rd k h1.1 rfl hk ?_
  rintro _ rfl
  refine m_rd k h1.1 rfl hk ?_
  rintro _ rfl
  rw [m_rv k hr rfl hk, nI_clamp (by omega)]
  exact h _ (MS_upd h1 hk) (SO_tr o1 (SO_sI ⟨by omega, by omega⟩))
theorem M_write {Q : Int32 → Hp → Prop} {x : Int32} (hS : MS S mo σ) (h : ∀ S', MS S' mo (oWrite σ x).2 → SO mo S S' → Q (oWrite σ x).1 S') : wp_X12_write mo x S Q := by
  obtain ⟨hM, hR, hU, ⟨ht1, ht2, ht3⟩, hw⟩ := id hS
  obtain ⟨k0, -, ⟨r2, k2, l2⟩, -⟩ := id hM
  unfold oWrite at h
  refine m_inB (a := 0) (b := 255) rfl rfl (by omega) (fun j _ hj hx => ?_) (fun hn => ⟨fun q => absurd rfl q, fun _ => ?_⟩)
  · subst hx
    rw [if_pos ((okB_nI (by omega)).mpr ⟨by omega, hj⟩)] at h
    refine ⟨fun _ => ⟨k0, fun hc => ?_, fun hc => ?_⟩, fun q => absurd q (by decide)⟩
    · rw [ht1, li_200, nI_ne (by omega) (by omega)] at hc
      rw [if_neg hc] at h
      refine ⟨k0, k0, _, r2, k2, by rw [ht1, l2]; exact vp_li (by omega) (by omega), ?_⟩
      rintro _ rfl
      refine ⟨k0, k0, ?_⟩
      rintro _ rfl
      refine ⟨k0, ?_⟩
      have e1 : gI (sI S 0 (mo + 2) (gI S 196 mo 0).toNatClampNeg (nI j)) 196 mo 0 = nI σ.2.2.2 := by rw [gI_sI, if_neg (by omega)]; exact ht1
      rw [e1, ht1, nI_clamp (by omega), nI_1]
      have e2 : gI (sI (sI S 0 (mo + 2) σ.2.2.2 (nI j)) 196 mo 0 (nI (σ.2.2.2 + 1))) 196 mo 0 = nI (σ.2.2.2 + 1) := by simp [gI_sI]
      rw [e2]
      refine h _ ⟨hM, fun i hi => ?_, ⟨?_, hU.2.1, fun i u hi k hk => ?_⟩, ⟨e2, by show σ.2.2.2 + 1 ≤ 200; omega, fun i hi => ?_⟩, fun i hi => ?_⟩ (SO_tr (SO_sI ⟨by omega, by omega⟩) (SO_sI ⟨by omega, by omega⟩))
      · rw [gI_sI, if_neg (by omega), gI_sI, if_neg (by omega)]
        exact hR i hi
      · rw [gI_sI, if_neg (by omega), gI_sI, if_neg (by omega)]
        exact hU.1
      · rw [gI_sI, if_neg (by omega), gI_sI, if_neg (by omega)]
        exact hU.2.2 i u hi k hk
      · have hi' : i < σ.2.2.2 + 1 := hi
        show gI _ 0 (mo + 2) i = nI (va_up σ.2.2.1 σ.2.2.2 (tn (nI j)) i) ∧ va_up σ.2.2.1 σ.2.2.2 (tn (nI j)) i ≤ 255
        rw [tn_nI (by omega), gI_sI, if_neg (by omega), gI_sI]
        unfold va_up
        by_cases hil : i = σ.2.2.2
        · subst hil
          simp
          omega
        · simp [hil]
          exact ht3 i (by omega)
      · rw [gI_sI, if_neg (by omega), gI_sI, if_neg (by omega)]
        exact hw i hi
    · rw [ht1, li_200, nI_eq (by omega) (by omega)] at hc
      rw [if_pos hc] at h
      exact h S hS (SO_rf mo S)
  · rw [if_neg hn] at h
    exact h S hS (SO_rf mo S)
theorem M_erase {Q : Int32 → Hp → Prop} (hS : MS S mo σ) (h : ∀ S', MS S' mo (oErase σ).2 → SO mo S S' → Q (oErase σ).1 S') : wp_X12_erase mo S Q := by
  obtain ⟨hM, hR, hU, ⟨ht1, ht2, ht3⟩, hw⟩ := id hS
  refine ⟨hM.1, ?_⟩
  rintro _ rfl
  refine ⟨hM.1, ?_⟩
  rintro _ rfl
  rw [ht1]
  refine h _ ⟨hM, fun i hi => ?_, ⟨?_, hU.2.1, fun i u hi k hk => ?_⟩, ⟨by simp [gI_sI, oErase]; rfl, Nat.zero_le _, fun i hi => absurd hi (Nat.not_lt_zero i)⟩, fun i hi => ?_⟩ (SO_sI ⟨by omega, by omega⟩)
  · rw [gI_sI, if_neg (by omega)]
    exact hR i hi
  · rw [gI_sI, if_neg (by omega)]
    exact hU.1
  · rw [gI_sI, if_neg (by omega)]
    exact hU.2.2 i u hi k hk
  · rw [gI_sI, if_neg (by omega)]
    exact hw i hi
theorem M_packets {Q : Int32 → Hp → Prop} {x : Int32} (hS : MS S mo σ) (h : ∀ S', MS S' mo (oPackets σ x).2 → SO mo S S' → Q (oPackets σ x).1 S') : wp_X12_packets mo x S Q := by
  unfold oPackets at h
  refine m_inB (a := 1) (b := 8) rfl rfl (by omega) (fun j h1 hj hx => ⟨fun q => absurd q (by decide), fun _ => ⟨hS.1.1, ?_⟩⟩) (fun hn => ⟨fun _ => ?_, fun q => absurd rfl q⟩)
  · subst hx
    rw [if_pos ((okB_nI (by omega)).mpr ⟨h1, hj⟩), tn_nI (by omega)] at h
    exact M_changes (k := 0) hS (by omega) h
  · rw [if_neg hn] at h
    exact h S hS (SO_rf mo S)
theorem M_room {Q : Int32 → Hp → Prop} {x : Int32} (hS : MS S mo σ) (h : ∀ S', MS S' mo (oRoom σ x).2 → SO mo S S' → Q (oRoom σ x).1 S') : wp_X12_room mo x S Q := by
  unfold oRoom at h
  refine m_inB (a := 1) (b := 40) rfl rfl (by omega) (fun j h1 hj hx => ⟨fun q => absurd q (by decide), fun _ => ⟨hS.1.1, ?_⟩⟩) (fun hn => ⟨fun _ => ?_, fun q => absurd rfl q⟩)
  · subst hx
    rw [if_pos ((okB_nI (by omega)).mpr ⟨h1, hj⟩), tn_nI (by omega)] at h
    exact M_changes (k := 1) hS (by omega) h
  · rw [if_neg hn] at h
    exact h S hS (SO_rf mo S)
end MOPS
