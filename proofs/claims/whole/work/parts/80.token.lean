/-! ===== tokens of the text ===== -/
def rnF (P : Nat → Bool) (T : Nat → Nat) : Nat → Nat → Nat
  | 0, b => b
  | n + 1, b => if P (T b) = true then rnF P T n (b + 1) else b
/-- from b on, as long as P -/
def rn (P : Nat → Bool) (T : Nat → Nat) (L b : Nat) : Nat := rnF P T (L - b) b
section RN
variable {P : Nat → Bool} {T : Nat → Nat} {L b : Nat}
theorem rn_end (h : L ≤ b) : rn P T L b = b := by
  unfold rn
  rw [show L - b = 0 by omega]
  rfl
theorem rn_go (h : b < L) (hp : P (T b) = true) : rn P T L b = rn P T L (b + 1) := by
  unfold rn
  rw [show L - b = (L - (b + 1)) + 1 by omega, rnF, if_pos hp]
theorem rn_no (hp : ¬ P (T b) = true) : rn P T L b = b := by
  unfold rn
  cases L - b with
  | zero => rfl
  | succ n => rw [rnF, if_neg hp]
theorem rnF_sp : ∀ n b, b ≤ rnF P T n b ∧ rnF P T n b ≤ b + n ∧ (∀ i, b ≤ i → i < rnF P T n b → P (T i) = true) ∧ (rnF P T n b < b + n → ¬ P (T (rnF P T n b)) = true)
  | 0, b => ⟨Nat.le_refl _, Nat.le_refl _, fun i h1 h2 => absurd h2 (by show ¬ i < b; omega), fun h => absurd h (by show ¬ b < b + 0; omega)⟩
  | n + 1, b => by
    rw [rnF]
    by_cases hp : P (T b) = true
    · rw [if_pos hp]
      obtain ⟨h1, h2, h3, h4⟩ := rnF_sp n (b + 1)
      refine ⟨by omega, by omega, fun i g1 g2 => ?_, fun g => h4 (by omega)⟩
      by_cases e : i = b
      · rw [e]
        exact hp
      · exact h3 i (by omega) g2
    · rw [if_neg hp]
      exact ⟨Nat.le_refl _, by omega, fun i g1 g2 => absurd g2 (by omega), fun _ => hp⟩
theorem rn_ge : b ≤ rn P T L b := (rnF_sp _ _).1
theorem rn_le (h : b ≤ L) : rn P T L b ≤ L := by
  have := (rnF_sp (P := P) (T := T) (L - b) b).2.1
  unfold rn
  omega
theorem rn_all {i : Nat} (h1 : b ≤ i) (h2 : i < rn P T L b) : P (T i) = true := (rnF_sp _ _).2.2.1 i h1 h2
end RN
def isSp (c : Nat) : Bool := decide (c = 32)
def isSm (c : Nat) : Bool := decide (97 ≤ c ∧ c ≤ 122)
def isDg (c : Nat) : Bool := decide (48 ≤ c ∧ c ≤ 57)
theorem isSp_iff {c : Nat} : isSp c = true ↔ c = 32 := decide_eq_true_iff
theorem isSm_iff {c : Nat} : isSm c = true ↔ 97 ≤ c ∧ c ≤ 122 := decide_eq_true_iff
theorem isDg_iff {c : Nat} : isDg c = true ↔ 48 ≤ c ∧ c ≤ 57 := decide_eq_true_iff
/-- where the token behind b begins; where the one that begins at f ends -/
def tF (T : Nat → Nat) (L b : Nat) : Nat := rn isSp T L b
def tE (T : Nat → Nat) (L f : Nat) : Nat := if f < L then (if isSm (T f) = true then rn isSm T L (f + 1) else if isDg (T f) = true then rn isDg T L (f + 1) else f + 1) else f
/-- the next token of a place -/
abbrev nF (T : Nat → Nat) (L f : Nat) : Nat := tF T L (tE T L f)
section TOK
variable {T : Nat → Nat} {L b f : Nat}
theorem tF_ge : b ≤ tF T L b := rn_ge
theorem tF_le (h : b ≤ L) : tF T L b ≤ L := rn_le h
theorem tE_ge : f ≤ tE T L f := by
  unfold tE
  split
  · split
    · exact Nat.le_trans (by omega) rn_ge
    · split
      · exact Nat.le_trans (by omega) rn_ge
      · omega
  · omega
theorem tE_gt (h : f < L) : f < tE T L f := by
  unfold tE
  rw [if_pos h]
  split
  · exact Nat.lt_of_lt_of_le (by omega) rn_ge
  · split
    · exact Nat.lt_of_lt_of_le (by omega) rn_ge
    · omega
theorem tE_le (h : f ≤ L) : tE T L f ≤ L := by
  unfold tE
  split
  · split
    · exact rn_le (by omega)
    · split
      · exact rn_le (by omega)
      · omega
  · omega
theorem nF_le (h : f ≤ L) : nF T L f ≤ L := tF_le (tE_le h)
theorem tE_end (h : L ≤ f) : tE T L f = f := by
  unfold tE
  rw [if_neg (by omega)]
theorem tE_sm (h : f < L) (hs : isSm (T f) = true) : tE T L f = rn isSm T L f := by
  unfold tE
  rw [if_pos h, if_pos hs, rn_go h hs]
theorem tE_dg (h : f < L) (hs : isDg (T f) = true) : tE T L f = rn isDg T L f := by
  have hn : ¬ isSm (T f) = true := by
    rw [isDg_iff] at hs
    rw [isSm_iff]
    omega
  unfold tE
  rw [if_pos h, if_neg hn, if_pos hs, rn_go h hs]
theorem tE_ot (h : f < L) (h1 : ¬ isSm (T f) = true) (h2 : ¬ isDg (T f) = true) : tE T L f = f + 1 := by
  unfold tE
  rw [if_pos h, if_neg h1, if_neg h2]
theorem tE_alls (h : f < L) (hs : isSm (T f) = true) {i : Nat} (h1 : f ≤ i) (h2 : i < tE T L f) : isSm (T i) = true := by
  rw [tE_sm h hs] at h2
  exact rn_all h1 h2
theorem tE_alld (h : f < L) (hs : isDg (T f) = true) {i : Nat} (h1 : f ≤ i) (h2 : i < tE T L f) : isDg (T i) = true := by
  rw [tE_dg h hs] at h2
  exact rn_all h1 h2
end TOK
/-- the number that so many digits from f on say -/
def vlF (T : Nat → Nat) (f : Nat) : Nat → Nat
  | 0 => 0
  | n + 1 => 10 * vlF T f n + (T (f + n) - 48)
def vl (T : Nat → Nat) (L f : Nat) : Nat := vlF T f (tE T L f - f)
abbrev nmOk (T : Nat → Nat) (L f hi : Nat) : Prop := (f < L ∧ isDg (T f) = true ∧ tE T L f - f ≤ 2) ∧ 1 ≤ vl T L f ∧ vl T L f ≤ hi
abbrev wdOk (T : Nat → Nat) (L f : Nat) : Prop := f < L ∧ isSm (T f) = true ∧ tE T L f - f ≤ 12
def wlen (w : Nat) : Nat := ([3, 7, 4, 4] : List Nat).getD w 0
abbrev wIs (T : Nat → Nat) (L f w : Nat) : Prop := tE T L f = f + wlen w ∧ ∀ k, k < wlen w → T (f + k) = wdT (7 * w + k)
theorem vlF_le {T : Nat → Nat} {f : Nat} : ∀ n, n ≤ 2 → (∀ i, f ≤ i → i < f + n → isDg (T i) = true) → vlF T f n ≤ 99 ∧ (n ≤ 1 → vlF T f n ≤ 9)
  | 0, _, _ => ⟨Nat.zero_le _, fun _ => Nat.zero_le _⟩
  | n + 1, h, hd => by
    have ih := vlF_le n (by omega) (fun i h1 h2 => hd i h1 (by omega))
    have h1 := isDg_iff.mp (hd (f + n) (by omega) (by omega))
    rw [vlF]
    refine ⟨?_, fun hn => ?_⟩
    · have := ih.2 (by omega)
      omega
    · obtain rfl : n = 0 := by omega
      show 10 * 0 + _ ≤ 9
      omega
section CLAUSE
variable (T : Nat → Nat) (L f m : Nat)
/-- a clause that begins at f, with m parts by then: 0 all, 1 packets, 2 room, 3 part, 4 a fault -/
def ck : Nat := if wIs T L f 0 then 0 else if wIs T L f 1 then (if nmOk T L (nF T L f) 8 then 1 else 4) else if wIs T L f 2 then (if nmOk T L (nF T L f) 40 then 2 else 4) else if wIs T L f 3 ∧ m < 6 then (if wdOk T L (nF T L f) then (if nmOk T L (nF T L (nF T L f)) 8 then (if nmOk T L (nF T L (nF T L (nF T L f))) 9 then 3 else 4) else 4) else 4) else 4
/-- where its fault is -/
def cf : Nat := if wIs T L f 0 then f else if wIs T L f 1 then nF T L f else if wIs T L f 2 then nF T L f else if wIs T L f 3 ∧ m < 6 then (if wdOk T L (nF T L f) then (if nmOk T L (nF T L (nF T L f)) 8 then nF T L (nF T L (nF T L f)) else nF T L (nF T L f)) else nF T L f) else f
/-- its last token -/
def cl : Nat := if wIs T L f 0 then f else if wIs T L f 1 then nF T L f else if wIs T L f 2 then nF T L f else nF T L (nF T L (nF T L f))
/-- the parts behind it -/
def cm : Nat := if wIs T L f 0 then 0 else if wIs T L f 1 then m else if wIs T L f 2 then m else m + 1
end CLAUSE
def allR (q : Nat → Nat) : Nat → Nat := va_up (va_up (va_up q 0 4) 1 20) 2 0
def wrdR (T : Nat → Nat) (f b : Nat) (q : Nat → Nat) : Nat → Nat → Nat
  | 0 => q
  | i + 1 => va_up (wrdR T f b q i) (b + i) (T (f + i) - 97)
def partR (T : Nat → Nat) (f l n g : Nat) (q : Nat → Nat) : Nat → Nat := wrdR T f (6 + 15 * q 2) (va_up (va_up (va_up (va_up q 2 (q 2 + 1)) (3 + 15 * q 2) l) (4 + 15 * q 2) n) (5 + 15 * q 2) g) l
/-- what it does -/
def cq (T : Nat → Nat) (L f : Nat) (q : Nat → Nat) : Nat → Nat := if wIs T L f 0 then allR q else if wIs T L f 1 then va_up q 0 (vl T L (nF T L f)) else if wIs T L f 2 then va_up q 1 (vl T L (nF T L f)) else partR T (nF T L f) (tE T L (nF T L f) - nF T L f) (vl T L (nF T L (nF T L f))) (vl T L (nF T L (nF T L (nF T L f)))) q
/-- the clauses from f on, at most n behind the first: the fault, if there is one -/
def pF (T : Nat → Nat) (L : Nat) : Nat → Nat → Nat → Option Nat
  | 0, f, m => if ck T L f m = 4 then some (cf T L f m) else if nF T L (cl T L f) < L then some (nF T L (cl T L f)) else none
  | n + 1, f, m => if ck T L f m = 4 then some (cf T L f m) else if nF T L (cl T L f) < L then (if T (nF T L (cl T L f)) = 59 then pF T L n (nF T L (nF T L (cl T L f))) (cm T L f m) else some (nF T L (cl T L f))) else none
/-- how many they are -/
def pN (T : Nat → Nat) (L : Nat) : Nat → Nat → Nat
  | 0, _ => 1
  | n + 1, f => if nF T L (cl T L f) < L then pN T L n (nF T L (nF T L (cl T L f))) + 1 else 1
/-- what they do -/
def pQ (T : Nat → Nat) (L : Nat) : Nat → Nat → (Nat → Nat) → Nat → Nat
  | 0, f, q => cq T L f q
  | n + 1, f, q => if nF T L (cl T L f) < L then pQ T L n (nF T L (nF T L (cl T L f))) (cq T L f q) else cq T L f q
/-- at a token g behind a clause, n more to come -/
def pG (T : Nat → Nat) (L : Nat) (n g m : Nat) : Option Nat := if g < L then (if n = 0 then some g else if T g = 59 then pF T L (n - 1) (nF T L g) m else some g) else none
theorem pF_eq (T : Nat → Nat) (L n f m : Nat) : pF T L n f m = if ck T L f m = 4 then some (cf T L f m) else pG T L n (nF T L (cl T L f)) (cm T L f m) := by
  cases n with
  | zero =>
    rw [pF]
    unfold pG
    rw [if_pos rfl]
  | succ n =>
    rw [pF]
    unfold pG
    rw [if_neg (Nat.succ_ne_zero n), Nat.add_sub_cancel]
section CLAUSE2
variable {T : Nat → Nat} {L f m : Nat}
theorem cf_le (h : f ≤ L) : cf T L f m ≤ L := by
  unfold cf
  split
  · exact h
  · split
    · exact nF_le h
    · split
      · exact nF_le h
      · split
        · split
          · split
            · exact nF_le (nF_le (nF_le h))
            · exact nF_le (nF_le h)
          · exact nF_le h
        · exact h
theorem cl_le (h : f ≤ L) : cl T L f ≤ L := by
  unfold cl
  split
  · exact h
  · split
    · exact nF_le h
    · split
      · exact nF_le h
      · exact nF_le (nF_le (nF_le h))
theorem cm_le (h : m ≤ 6) (hk : ck T L f m ≠ 4) : cm T L f m ≤ 6 := by
  unfold cm
  unfold ck at hk
  split
  · omega
  · rename_i h0
    rw [if_neg h0] at hk
    split
    · exact h
    · rename_i h1
      rw [if_neg h1] at hk
      split
      · exact h
      · rename_i h2
        rw [if_neg h2] at hk
        by_cases h3 : wIs T L f 3 ∧ m < 6
        · omega
        · rw [if_neg h3] at hk
          exact absurd rfl hk
theorem wrdR_out {q : Nat → Nat} {b : Nat} : ∀ {n k : Nat}, ¬ (b ≤ k ∧ k < b + n) → wrdR T f b q n k = q k
  | 0, _, _ => rfl
  | n + 1, k, h => by
    rw [wrdR, va_up_ne _ _ (by omega)]
    exact wrdR_out (by omega)
theorem wrdR_in {q : Nat → Nat} {b : Nat} : ∀ {n j : Nat}, j < n → wrdR T f b q n (b + j) = T (f + j) - 97
  | 0, _, h => absurd h (Nat.not_lt_zero _)
  | n + 1, j, h => by
    rw [wrdR]
    by_cases e : j = n
    · rw [e, va_up_self]
    · rw [va_up_ne _ _ (by omega)]
      exact wrdR_in (by omega)
theorem cq_2 {q : Nat → Nat} : cq T L f q 2 = cm T L f (q 2) := by
  unfold cq cm
  split
  · exact va_up_self _ _ _
  · split
    · exact va_up_ne _ _ (by omega)
    · split
      · exact va_up_ne _ _ (by omega)
      · unfold partR
        rw [wrdR_out (by omega), va_up_ne _ _ (by omega), va_up_ne _ _ (by omega), va_up_ne _ _ (by omega), va_up_self]
end CLAUSE2
