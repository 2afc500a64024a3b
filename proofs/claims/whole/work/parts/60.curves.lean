/-! ===== sets as numbers, holders ===== -/
def onesS (m : Nat) : Nat → Nat
  | 0 => 0
  | k + 1 => onesS m k + m / 2 ^ k % 2
def pts (m n : Nat) : List Nat := (List.range n).filter (fun t => decide (m / 2 ^ t % 2 = 1))
def hol (q : Nat → Nat) (i n : Nat) : List Nat := (List.range n).filter (fun t => decide (has q t i))
def hmS (q : Nat → Nat) (i : Nat) : Nat → Nat
  | 0 => 0
  | t + 1 => hmS q i t ||| (if has q t i then 2 ^ t else 0)
theorem pts_len (m : Nat) : ∀ k, (pts m k).length = onesS m k
  | 0 => rfl
  | k + 1 => by
    have ih := pts_len m k
    unfold pts at ih ⊢
    rw [List.range_succ, List.filter_append, List.length_append, ih]
    show onesS m k + _ = onesS m k + m / 2 ^ k % 2
    congr 1
    have hb := Nat.mod_two_eq_zero_or_one (m / 2 ^ k)
    by_cases h : m / 2 ^ k % 2 = 1
    · simp [h]
    · have h0 : m / 2 ^ k % 2 = 0 := by omega
      simp [h0]
theorem pts_mem {m n t : Nat} : t ∈ pts m n ↔ t < n ∧ m / 2 ^ t % 2 = 1 := by
  unfold pts
  rw [List.mem_filter, List.mem_range, decide_eq_true_iff]
theorem pts_nd (m n : Nat) : (pts m n).Nodup := List.Pairwise.filter _ List.nodup_range
theorem hol_mem {q : Nat → Nat} {i n t : Nat} : t ∈ hol q i n ↔ t < n ∧ has q t i := by
  unfold hol
  rw [List.mem_filter, List.mem_range, decide_eq_true_iff]
theorem hol_nd (q : Nat → Nat) (i n : Nat) : (hol q i n).Nodup := List.Pairwise.filter _ List.nodup_range
theorem hmS_bit (q : Nat → Nat) (i : Nat) : ∀ n t, hmS q i n / 2 ^ t % 2 = if t < n ∧ has q t i then 1 else 0
  | 0, t => by
    rw [if_neg (by omega)]
    show 0 / 2 ^ t % 2 = 0
    rw [Nat.zero_div]
  | n + 1, t => by
    have ih := hmS_bit q i n t
    rw [← Nat.toNat_testBit] at ih ⊢
    unfold hmS
    rw [Nat.testBit_or]
    by_cases h : has q n i
    · rw [if_pos h, Nat.testBit_two_pow]
      by_cases e : n = t
      · subst e
        rw [if_pos ⟨by omega, h⟩]
        simp
      · simp only [e, decide_false, Bool.or_false]
        rw [ih]
        by_cases h2 : t < n ∧ has q t i
        · rw [if_pos h2, if_pos ⟨by omega, h2.2⟩]
        · rw [if_neg h2, if_neg (fun w => h2 ⟨by omega, w.2⟩)]
    · rw [if_neg h, Nat.zero_testBit, Bool.or_false, ih]
      by_cases h2 : t < n ∧ has q t i
      · rw [if_pos h2, if_pos ⟨by omega, h2.2⟩]
      · rw [if_neg h2, if_neg (fun w => h2 ⟨by
          have : t ≠ n := fun e => h (e ▸ w.2)
          omega, w.2⟩)]
theorem flt_lt (P : Nat → Prop) [DecidablePred P] (n : Nat) : ∀ d, (List.range (n + d)).filter (fun t => decide (t < n ∧ P t)) = (List.range n).filter (fun t => decide (P t))
  | 0 => by
    rw [Nat.add_zero]
    apply List.filter_congr
    intro t ht
    rw [List.mem_range] at ht
    simp [ht]
  | d + 1 => by
    rw [show n + (d + 1) = (n + d) + 1 by omega, List.range_succ, List.filter_append, flt_lt P n d]
    have : ([n + d].filter (fun t => decide (t < n ∧ P t))) = [] := by
      have : ¬ (n + d < n ∧ P (n + d)) := fun w => by have := w.1; omega
      simp [this]
    rw [this, List.append_nil]
theorem hm_pts {q : Nat → Nat} {i n : Nat} (hn : n ≤ 8) : pts (hmS q i n) 8 = hol q i n := by
  unfold pts hol
  have e : (fun t => decide (hmS q i n / 2 ^ t % 2 = 1)) = fun t => decide (t < n ∧ has q t i) := by
    funext t
    rw [hmS_bit]
    by_cases h : t < n ∧ has q t i
    · rw [if_pos h]
      simp [h]
    · rw [if_neg h]
      simp [h]
  rw [e]
  have := flt_lt (fun t => has q t i) n (8 - n)
  rw [show n + (8 - n) = 8 by omega] at this
  exact this
theorem hmS_lt (q : Nat → Nat) (i : Nat) : ∀ n, hmS q i n < 2 ^ n
  | 0 => Nat.one_pos
  | n + 1 => by
    have h1 := hmS_lt q i n
    have h3 : 2 ^ n < 2 ^ (n + 1) := Nat.pow_lt_pow_right (by omega) (by omega)
    unfold hmS
    split
    · exact Nat.or_lt_two_pow (Nat.lt_trans h1 h3) h3
    · rw [Nat.or_zero]
      exact Nat.lt_trans h1 h3
theorem ones_hm {q : Nat → Nat} {i n : Nat} (hn : n ≤ 8) : onesS (hmS q i n) 8 = (hol q i n).length := by rw [← pts_len, hm_pts hn]
theorem onesS_le (m : Nat) : ∀ k, onesS m k ≤ k
  | 0 => Nat.le_refl 0
  | k + 1 => by
    have := onesS_le m k
    have := Nat.mod_two_eq_zero_or_one (m / 2 ^ k)
    unfold onesS
    omega
/-! ===== curves through points ===== -/
def Thr (y : Nat → Nat) (k : Nat) (L : List Nat) (c : Nat → Nat) : Prop := (∀ j, j < k → c j < 29) ∧ ∀ t, t ∈ L → at29 c k (t + 1) = y t
theorem getD_at {L : List Nat} {i : Nat} (h : i < L.length) : L.getD i 0 = L[i] := by simp [List.getD, h]
theorem Thr_eq {y : Nat → Nat} {k : Nat} {L : List Nat} {c d : Nat → Nat} (hL : L.Nodup) (h8 : ∀ t, t ∈ L → t < 8) (hk : k ≤ L.length) (hc : Thr y k L c) (hd : Thr y k L d) : ∀ j, j < k → c j = d j := by
  have hg : ∀ i, i < k → L.getD i 0 ∈ L := fun i hi => by
    rw [getD_at (by omega)]
    exact List.getElem_mem _
  refine curve_eq (fun i => L.getD i 0 + 1) hc.1 hd.1 (fun i hi => ?_) (fun i j hi hj e => ?_) (fun i hi => ?_)
  · have := h8 _ (hg i hi)
    omega
  · have e' : L.getD i 0 = L.getD j 0 := Nat.succ.inj e
    rw [getD_at (by omega), getD_at (by omega)] at e'
    exact (List.getElem_inj hL).mp e'
  · rw [hc.2 _ (hg i hi), hd.2 _ (hg i hi)]
theorem ev_mod {e f : Nat → Int} : ∀ {n : Nat} {x : Int}, (∀ j, j < n → (29 : Int) ∣ e j - f j) → (29 : Int) ∣ ev e n x - ev f n x := by
  intro n
  induction n generalizing e f with
  | zero =>
    intro x _
    exact ⟨0, rfl⟩
  | succ n ih =>
    intro x h
    have h0 := h 0 (by omega)
    have h1 := ih (e := fun j => e (j + 1)) (f := fun j => f (j + 1)) (x := x) (fun j hj => h (j + 1) (by omega))
    show (29 : Int) ∣ (e 0 + x * ev (fun j => e (j + 1)) n x) - (f 0 + x * ev (fun j => f (j + 1)) n x)
    obtain ⟨w, hw⟩ := h1
    have : x * ev (fun j => e (j + 1)) n x - x * ev (fun j => f (j + 1)) n x = 29 * (x * w) := by
      rw [← Int.mul_sub, hw, ← Int.mul_assoc, ← Int.mul_assoc, Int.mul_comm x 29]
    omega
theorem ev_lin {e f : Nat → Int} {b : Int} : ∀ {n : Nat} {x : Int}, ev (fun j => e j + b * f j) n x = ev e n x + b * ev f n x := by
  intro n
  induction n generalizing e f with
  | zero =>
    intro x
    show (0 : Int) = 0 + b * 0
    rw [Int.mul_zero]
    rfl
  | succ n ih =>
    intro x
    show (e 0 + b * f 0) + x * ev (fun j => e (j + 1) + b * f (j + 1)) n x = (e 0 + x * ev (fun j => e (j + 1)) n x) + b * (f 0 + x * ev (fun j => f (j + 1)) n x)
    rw [ih (e := fun j => e (j + 1)) (f := fun j => f (j + 1)), Int.mul_add, Int.mul_add, ← Int.mul_assoc, ← Int.mul_assoc, Int.mul_comm x b]
    omega
theorem ev_zero {e : Nat → Int} : ∀ {n : Nat} {x : Int}, (∀ j, j < n → e j = 0) → ev e n x = 0 := by
  intro n
  induction n generalizing e with
  | zero => intro x _; rfl
  | succ n ih =>
    intro x h
    show e 0 + x * ev (fun j => e (j + 1)) n x = 0
    rw [ih (e := fun j => e (j + 1)) (fun j hj => h (j + 1) (by omega)), h 0 (by omega), Int.mul_zero]
    rfl
theorem ev_tail {e : Nat → Int} : ∀ {k n : Nat} {x : Int}, k ≤ n → (∀ j, k ≤ j → j < n → e j = 0) → ev e n x = ev e k x := by
  intro k
  induction k generalizing e with
  | zero =>
    intro n x _ h
    exact ev_zero fun j hj => h j (by omega) hj
  | succ k ih =>
    intro n x hk h
    obtain ⟨n, rfl⟩ : ∃ m, n = m + 1 := ⟨n - 1, by omega⟩
    show e 0 + x * ev (fun j => e (j + 1)) n x = e 0 + x * ev (fun j => e (j + 1)) k x
    rw [ih (e := fun j => e (j + 1)) (by omega) (fun j h1 h2 => h (j + 1) (by omega) (by omega))]
theorem ev_shift {e : Nat → Int} {n : Nat} {x : Int} : ev (fun j => if j = 0 then 0 else e (j - 1)) (n + 1) x = x * ev e n x := by
  show (0 : Int) + x * ev (fun j => if j + 1 = 0 then 0 else e (j + 1 - 1)) n x = x * ev e n x
  rw [Int.zero_add]
  congr 1
theorem at29_ev (c : Nat → Nat) (k x : Nat) : (29 : Int) ∣ (at29 c k x : Int) - ev (fun j => (c j : Int)) k x := by
  have := hr_ev c k x k (Nat.le_refl _)
  rw [Nat.sub_self] at this
  exact this
theorem at29_lt (c : Nat → Nat) (k x : Nat) : at29 c k x < 29 := hr_lt c k x k
theorem at29_tail {c : Nat → Nat} {k n x : Nat} (hk : k ≤ n) (h : ∀ j, k ≤ j → j < n → c j = 0) : at29 c n x = at29 c k x := by
  have h1 := at29_ev c n x
  have h2 := at29_ev c k x
  rw [ev_tail hk (fun j a b => by rw [h j a b]; rfl)] at h1
  have := at29_lt c n x
  have := at29_lt c k x
  omega
theorem at29_cg {c d : Nat → Nat} {k x : Nat} (h : ∀ j, j < k → c j = d j) : at29 c k x = at29 d k x := by
  have h1 := at29_ev c k x
  have h2 := at29_ev d k x
  rw [ev_congr (fun j hj => by rw [h j hj])] at h1
  have := at29_lt c k x
  have := at29_lt d k x
  omega
/-- what lies when the first p packets of a set are gone through -/
def LayI (y : Nat → Nat) (m p : Nat) (c th : Nat → Nat) : Prop := ((∀ j, c j < 29) ∧ ∀ j, onesS m p ≤ j → c j = 0) ∧ ((∀ j, th j < 29) ∧ ∀ j, onesS m p < j → th j = 0) ∧ (∀ t, t < p → m / 2 ^ t % 2 = 1 → (29 : Int) ∣ ev (fun j => (c j : Int)) 8 (t + 1) - y t) ∧ (∀ t, t < p → m / 2 ^ t % 2 = 1 → (29 : Int) ∣ ev (fun j => (th j : Int)) 9 (t + 1)) ∧ ∀ t : Nat, p ≤ t → t < 8 → ¬ (29 : Int) ∣ ev (fun j => (th j : Int)) 9 (t + 1)
theorem LayI_0 (y : Nat → Nat) (m : Nat) : LayI y m 0 (fun _ => 0) (fun k => if k = 0 then 1 else 0) := by
  refine ⟨⟨fun _ => (by decide : 0 < 29), fun _ _ => rfl⟩, ⟨fun j => by dsimp only; split <;> decide, fun j hj => if_neg (by have : onesS m 0 = 0 := rfl; omega)⟩, fun t ht => by omega, fun t ht => by omega, fun t _ _ => ?_⟩
  have : ev (fun j => (((if j = 0 then 1 else 0 : Nat)) : Int)) 9 (t + 1) = 1 := by
    rw [ev_tail (k := 1) (by decide) (fun j h1 h2 => by rw [if_neg (by omega)]; rfl)]
    show (((if (0 : Nat) = 0 then 1 else 0 : Nat)) : Int) + ((t : Int) + 1) * 0 = 1
    rw [Int.mul_zero]
    rfl
  rw [this]
  omega
theorem LayI_skip {y : Nat → Nat} {m p : Nat} {c th : Nat → Nat} (hb : m / 2 ^ p % 2 ≠ 1) (h : LayI y m p c th) : LayI y m (p + 1) c th := by
  have e : onesS m (p + 1) = onesS m p := by
    have := Nat.mod_two_eq_zero_or_one (m / 2 ^ p)
    show onesS m p + m / 2 ^ p % 2 = onesS m p
    omega
  obtain ⟨h1, h2, h3, h4, h5⟩ := h
  unfold LayI
  rw [e]
  refine ⟨h1, h2, fun t ht hbt => h3 t ?_ hbt, fun t ht hbt => h4 t ?_ hbt, fun t ht => h5 t (by omega)⟩
  · have : t ≠ p := fun e => hb (e ▸ hbt)
    omega
  · have : t ≠ p := fun e => hb (e ▸ hbt)
    omega
theorem md29 (n : Nat) : (29 : Int) ∣ ((n % 29 : Nat) : Int) - n := by omega
theorem LayI_step {y : Nat → Nat} {m p b : Nat} {c th : Nat → Nat} (hp : p < 8) (hb : m / 2 ^ p % 2 = 1) (h : LayI y m p c th) (hbb : (29 : Int) ∣ ev (fun j => (c j : Int)) 8 (p + 1) + b * ev (fun j => (th j : Int)) 9 (p + 1) - y p) : LayI y m (p + 1) (fun k => (c k + b * th k) % 29) (fun k => ((if k = 0 then 0 else th (k - 1)) + (29 - (p + 1)) * th k) % 29) := by
  have e : onesS m (p + 1) = onesS m p + 1 := by
    rw [onesS, hb]
  have hle := onesS_le m p
  obtain ⟨⟨h1, h1'⟩, ⟨h2, h2'⟩, h3, h4, h5⟩ := h
  have t8 : th 8 = 0 := h2' 8 (by omega)
  have e98 : ∀ x : Int, ev (fun j => (th j : Int)) 9 x = ev (fun j => (th j : Int)) 8 x := fun x => ev_tail (by decide) (fun j a b => by rw [show j = 8 by omega, t8]; rfl)
  -- the new curve's numbers
  have ec : ∀ x : Int, (29 : Int) ∣ ev (fun j => (((c j + b * th j) % 29 : Nat) : Int)) 8 x - (ev (fun j => (c j : Int)) 8 x + b * ev (fun j => (th j : Int)) 9 x) := by
    intro x
    rw [e98, ← ev_lin]
    refine ev_mod fun j _ => ?_
    have := md29 (c j + b * th j)
    rw [Int.natCast_add, Int.natCast_mul] at this
    exact this
  have et : ∀ x : Int, (29 : Int) ∣ ev (fun j => ((((if j = 0 then 0 else th (j - 1)) + (29 - (p + 1)) * th j) % 29 : Nat) : Int)) 9 x - (x - ((p : Int) + 1)) * ev (fun j => (th j : Int)) 9 x := by
    intro x
    have a1 : (29 : Int) ∣ ev (fun j => ((((if j = 0 then 0 else th (j - 1)) + (29 - (p + 1)) * th j) % 29 : Nat) : Int)) 9 x - ev (fun j => (if j = 0 then 0 else (th (j - 1) : Int)) + ((29 - (p + 1) : Nat) : Int) * (th j : Int)) 9 x := by
      refine ev_mod fun j _ => ?_
      have := md29 ((if j = 0 then 0 else th (j - 1)) + (29 - (p + 1)) * th j)
      rw [Int.natCast_add, Int.natCast_mul] at this
      by_cases h0 : j = 0
      · subst h0
        exact this
      · rw [if_neg h0] at this ⊢
        rw [if_neg h0]
        exact this
    rw [ev_lin, ev_shift (n := 8) (e := fun j => (th j : Int)), ← e98] at a1
    have e29 : ((29 - (p + 1) : Nat) : Int) = 29 - ((p : Int) + 1) := by omega
    rw [e29] at a1
    generalize ev (fun j => (th j : Int)) 9 x = T at a1 ⊢
    rw [Int.sub_mul] at a1
    rw [Int.sub_mul]
    omega
  refine ⟨⟨fun j => Nat.mod_lt _ (by decide), fun j hj => ?_⟩, ⟨fun j => Nat.mod_lt _ (by decide), fun j hj => ?_⟩, fun t ht hbt => ?_, fun t ht hbt => ?_, fun t ht ht8 => ?_⟩
  · dsimp only
    rw [h1' j (by omega), h2' j (by omega), Nat.mul_zero]
  · dsimp only
    rw [h2' j (by omega), if_neg (by omega), h2' (j - 1) (by omega), Nat.mul_zero]
  · dsimp only
    have := ec (t + 1)
    by_cases etp : t = p
    · subst etp
      omega
    · obtain ⟨w, hw⟩ := h4 t (by omega) hbt
      have h3t := h3 t (by omega) hbt
      rw [hw] at this
      have e2 : (b : Int) * (29 * w) = 29 * (b * w) := by rw [← Int.mul_assoc, Int.mul_comm (b : Int) 29, Int.mul_assoc]
      rw [e2] at this
      omega
  · dsimp only
    have := et (t + 1)
    by_cases etp : t = p
    · subst etp
      rw [Int.sub_self, Int.zero_mul] at this
      omega
    · obtain ⟨w, hw⟩ := h4 t (by omega) hbt
      rw [hw] at this
      have e2 : ((t : Int) + 1 - ((p : Int) + 1)) * (29 * w) = 29 * (((t : Int) + 1 - ((p : Int) + 1)) * w) := by rw [← Int.mul_assoc, Int.mul_comm _ 29, Int.mul_assoc]
      rw [e2] at this
      omega
  · have := et (t + 1)
    intro hd
    dsimp only at hd
    refine h5 t (by omega) ht8 (p29 (d := (t : Int) + 1 - ((p : Int) + 1)) (by omega) (by omega) (by omega) ?_)
    omega
theorem LayI_thr {y : Nat → Nat} {m k : Nat} {c th : Nat → Nat} (hy : ∀ t, t < 8 → y t < 29) (hk : onesS m 8 = k) (h : LayI y m 8 c th) : Thr y k (pts m 8) c ∧ ∀ j, k ≤ j → c j = 0 := by
  obtain ⟨⟨h1, h1'⟩, -, h3, -⟩ := h
  rw [hk] at h1'
  have hk8 : k ≤ 8 := by rw [← hk]; exact onesS_le m 8
  refine ⟨⟨fun j _ => h1 j, fun t ht => ?_⟩, h1'⟩
  rw [pts_mem] at ht
  have a1 := h3 t ht.1 ht.2
  have a2 := at29_ev c 8 (t + 1)
  rw [← at29_tail hk8 (fun j a _ => h1' j a)]
  have a3 := at29_lt c 8 (t + 1)
  have a4 := hy t ht.1
  have e : (((t + 1 : Nat)) : Int) = (t : Int) + 1 := by omega
  rw [e] at a2
  omega
/-- an inverse -/
theorem inv29 : ∀ a, a < 29 → a ≠ 0 → ∃ b, b < 29 ∧ 1 ≤ b ∧ a * b % 29 = 1 := by decide +kernel
theorem lack_ok {y C T b l v : Nat} {c : Int} {t : Int} (hC : (29 : Int) ∣ (C : Int) - c) (hT : (29 : Int) ∣ (T : Int) - t) (hC29 : C < 29) (hl : l = (y + 29 - C) % 29) (hv : T * v % 29 = 1) (hb : b = l * v % 29) : (29 : Int) ∣ c + b * t - y := by
  obtain ⟨w1, hw1⟩ := hC
  obtain ⟨w2, hw2⟩ := hT
  have ht : t = T - 29 * w2 := by omega
  have e1 : (29 : Int) ∣ (b : Int) * t - l * (T * v) := by
    have h1 := md29 (l * v)
    rw [← hb, Int.natCast_mul] at h1
    obtain ⟨w3, hw3⟩ := h1
    have : (b : Int) = l * v + 29 * w3 := by omega
    rw [this, ht, Int.add_mul, Int.mul_sub]
    have e2 : (l : Int) * v * T = l * (T * v) := by rw [Int.mul_assoc, Int.mul_comm (v : Int) T]
    have e3 : (l : Int) * v * (29 * w2) = 29 * (l * v * w2) := by rw [← Int.mul_assoc, Int.mul_comm _ 29, Int.mul_assoc]
    rw [e2, e3, Int.mul_assoc 29]
    omega
  have e4 : (29 : Int) ∣ (l : Int) * (T * v) - l := by
    have h1 := md29 (T * v)
    rw [hv, Int.natCast_mul] at h1
    obtain ⟨w3, hw3⟩ := h1
    have : (T : Int) * v = 1 - 29 * w3 := by omega
    rw [this, Int.mul_sub, Int.mul_one]
    have e3 : (l : Int) * (29 * w3) = 29 * (l * w3) := by rw [← Int.mul_assoc, Int.mul_comm _ 29, Int.mul_assoc]
    rw [e3]
    omega
  omega
theorem lay_ex {y : Nat → Nat} {m : Nat} : ∀ p, p ≤ 8 → ∃ c th, LayI y m p c th
  | 0, _ => ⟨_, _, LayI_0 y m⟩
  | p + 1, hp => by
    obtain ⟨c, th, h⟩ := lay_ex (y := y) (m := m) p (by omega)
    by_cases hb : m / 2 ^ p % 2 = 1
    · have hT := at29_ev th 9 (p + 1)
      have e : (((p + 1 : Nat)) : Int) = (p : Int) + 1 := by omega
      rw [e] at hT
      have hne : at29 th 9 (p + 1) ≠ 0 := fun w => h.2.2.2.2 p (Nat.le_refl _) (by omega) (by rw [w] at hT; omega)
      obtain ⟨v, _, _, hv⟩ := inv29 _ (at29_lt th 9 (p + 1)) hne
      have hC := at29_ev c 8 (p + 1)
      rw [e] at hC
      exact ⟨_, _, LayI_step (by omega) hb h (lack_ok hC hT (at29_lt _ _ _) rfl hv rfl)⟩
    · exact ⟨_, _, LayI_skip hb h⟩
