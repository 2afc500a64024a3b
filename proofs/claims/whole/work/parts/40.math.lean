/-! ===== curves over the numbers modulo 29: a curve of n numbers with n zeros is nothing ===== -/
def ev (e : Nat → Int) : Nat → Int → Int
  | 0, _ => 0
  | n + 1, x => e 0 + x * ev (fun j => e (j + 1)) n x
def quo (e : Nat → Int) (n : Nat) (a : Int) (j : Nat) : Int := ev (fun i => e (i + (j + 1))) (n - j) a
theorem ev_congr {e f : Nat → Int} : ∀ {n : Nat} {x : Int}, (∀ j, j < n → e j = f j) → ev e n x = ev f n x := by
  intro n
  induction n generalizing e f with
  | zero => intro x _; rfl
  | succ n ih =>
    intro x h
    unfold ev
    rw [h 0 (by omega), ih (fun j hj => h (j + 1) (by omega))]
theorem ev_quo (n : Nat) : ∀ (e : Nat → Int) (a x : Int), ev e (n + 1) x = (x - a) * ev (quo e n a) n x + ev e (n + 1) a := by
  induction n with
  | zero =>
    intro e a x
    show e 0 + x * 0 = (x - a) * 0 + (e 0 + a * 0)
    rw [Int.mul_zero, Int.mul_zero, Int.mul_zero]
    omega
  | succ n ih =>
    intro e a x
    have h1 := ih (fun j => e (j + 1)) a x
    have h2 : ev (quo e (n + 1) a) (n + 1) x = ev (fun j => e (j + 1)) (n + 1) a + x * ev (quo (fun j => e (j + 1)) n a) n x := by
      show quo e (n + 1) a 0 + x * ev (fun j => quo e (n + 1) a (j + 1)) n x = _
      have e0 : quo e (n + 1) a 0 = ev (fun j => e (j + 1)) (n + 1) a := rfl
      rw [e0]
      congr 2
      refine ev_congr fun j hj => ?_
      unfold quo
      rw [show n + 1 - (j + 1) = n - j by omega]
      rfl
    show e 0 + x * ev (fun j => e (j + 1)) (n + 1) x = (x - a) * ev (quo e (n + 1) a) (n + 1) x + (e 0 + a * ev (fun j => e (j + 1)) (n + 1) a)
    rw [h2, h1]
    generalize ev (quo (fun j => e (j + 1)) n a) n x = A
    generalize ev (fun j => e (j + 1)) (n + 1) a = B
    simp only [Int.mul_add, Int.sub_mul, Int.mul_sub]
    rw [← Int.mul_assoc x x A, ← Int.mul_assoc x a A, ← Int.mul_assoc a x A, Int.mul_comm x a]
    omega
theorem p29 {d y : Int} (h1 : d ≠ 0) (h2 : -8 < d) (h3 : d < 8) (h : (29 : Int) ∣ d * y) : (29 : Int) ∣ y := by
  have : d = -7 ∨ d = -6 ∨ d = -5 ∨ d = -4 ∨ d = -3 ∨ d = -2 ∨ d = -1 ∨ d = 1 ∨ d = 2 ∨ d = 3 ∨ d = 4 ∨ d = 5 ∨ d = 6 ∨ d = 7 := by omega
  rcases this with rfl | rfl | rfl | rfl | rfl | rfl | rfl | rfl | rfl | rfl | rfl | rfl | rfl | rfl <;> omega
/-- n different places between 1 and 8 at which a curve of n numbers is 0 -/
theorem zero_of : ∀ (n : Nat) (e : Nat → Int) (xs : Nat → Int), (∀ i, i < n → 1 ≤ xs i ∧ xs i ≤ 8) → (∀ i j, i < n → j < n → xs i = xs j → i = j) → (∀ i, i < n → (29 : Int) ∣ ev e n (xs i)) → ∀ j, j < n → (29 : Int) ∣ e j := by
  intro n
  induction n with
  | zero => intro e xs _ _ _ j hj; omega
  | succ n ih =>
    intro e xs hb hi hz
    have ha := hz n (by omega)
    have hg : ∀ j, j < n → (29 : Int) ∣ quo e n (xs n) j := by
      refine ih (quo e n (xs n)) xs (fun i h => hb i (by omega)) (fun i j h1 h2 => hi i j (by omega) (by omega)) (fun i h => ?_)
      have hx := hz i (by omega)
      rw [ev_quo n e (xs n) (xs i)] at hx
      have hd : (29 : Int) ∣ (xs i - xs n) * ev (quo e n (xs n)) n (xs i) := by omega
      have b1 := hb i (by omega)
      have b2 := hb n (by omega)
      exact p29 (fun q => by have := hi i n (by omega) (by omega) (by omega); omega) (by omega) (by omega) hd
    -- e out of the quotient
    have he : ∀ j, j < n → e (j + 1) = quo e n (xs n) j - xs n * (if j + 1 < n then quo e n (xs n) (j + 1) else 0) := by
      intro j hj
      by_cases h1 : j + 1 < n
      · rw [if_pos h1]
        unfold quo
        rw [show n - j = (n - (j + 1)) + 1 by omega]
        show e (j + 1) = (e (0 + (j + 1)) + xs n * ev (fun i => e (i + 1 + (j + 1))) (n - (j + 1)) (xs n)) - xs n * ev (fun i => e (i + (j + 1 + 1))) (n - (j + 1)) (xs n)
        have e1 : ev (fun i => e (i + 1 + (j + 1))) (n - (j + 1)) (xs n) = ev (fun i => e (i + (j + 1 + 1))) (n - (j + 1)) (xs n) := ev_congr fun i _ => congrArg e (by omega)
        rw [e1, Nat.zero_add]
        omega
      · rw [if_neg h1]
        unfold quo
        rw [show n - j = 0 + 1 by omega]
        show e (j + 1) = (e (0 + (j + 1)) + xs n * 0) - xs n * 0
        rw [Nat.zero_add, Int.mul_zero]
        omega
    intro j hj
    cases j with
    | zero =>
      cases n with
      | zero =>
        have : ev e 1 (xs 0) = e 0 := by
          show e 0 + xs 0 * 0 = e 0
          rw [Int.mul_zero]
          omega
        rw [← this]
        exact ha
      | succ n =>
        have h0 : ev e (n + 1 + 1) (xs (n + 1)) = e 0 + xs (n + 1) * quo e (n + 1) (xs (n + 1)) 0 := rfl
        rw [h0] at ha
        obtain ⟨w, hw⟩ := hg 0 (by omega)
        rw [hw] at ha
        have : xs (n + 1) * (29 * w) = 29 * (xs (n + 1) * w) := by
          rw [← Int.mul_assoc, Int.mul_comm (xs (n + 1)) 29, Int.mul_assoc]
        rw [this] at ha
        omega
    | succ j =>
      rw [he j (by omega)]
      obtain ⟨w, hw⟩ := hg j (by omega)
      by_cases h1 : j + 1 < n
      · rw [if_pos h1]
        obtain ⟨v, hv⟩ := hg (j + 1) h1
        rw [hw, hv]
        have : xs n * (29 * v) = 29 * (xs n * v) := by
          rw [← Int.mul_assoc, Int.mul_comm (xs n) 29, Int.mul_assoc]
        rw [this]
        omega
      · rw [if_neg h1, hw, Int.mul_zero]
        omega
/-! ===== a curve's number at x, by Horner modulo 29 ===== -/
def hr (c : Nat → Nat) (k x : Nat) : Nat → Nat
  | 0 => 0
  | j + 1 => (hr c k x j * x + c (k - 1 - j)) % 29
/-- the curve of k numbers at x -/
def at29 (c : Nat → Nat) (k x : Nat) : Nat := hr c k x k
theorem hr_lt (c : Nat → Nat) (k x : Nat) : ∀ j, hr c k x j < 29
  | 0 => (by decide : 0 < 29)
  | j + 1 => Nat.mod_lt _ (by decide)
theorem hr_ev (c : Nat → Nat) (k x : Nat) : ∀ j, j ≤ k → (29 : Int) ∣ (hr c k x j : Int) - ev (fun i => (c (i + (k - j)) : Int)) j x
  | 0, _ => by
    show (29 : Int) ∣ ((0 : Nat) : Int) - 0
    omega
  | j + 1, h => by
    have ih := hr_ev c k x j (by omega)
    have e1 : ev (fun i => (c (i + (k - (j + 1))) : Int)) (j + 1) x = (c (k - 1 - j) : Int) + x * ev (fun i => (c (i + (k - j)) : Int)) j x := by
      show (c (0 + (k - (j + 1))) : Int) + x * ev (fun i => (c (i + 1 + (k - (j + 1))) : Int)) j x = _
      rw [show 0 + (k - (j + 1)) = k - 1 - j by omega]
      congr 2
      refine ev_congr fun i _ => ?_
      show (c (i + 1 + (k - (j + 1))) : Int) = c (i + (k - j))
      rw [show i + 1 + (k - (j + 1)) = i + (k - j) by omega]
    rw [e1]
    generalize ev (fun i => (c (i + (k - j)) : Int)) j x = A at ih ⊢
    show (29 : Int) ∣ (((hr c k x j * x + c (k - 1 - j)) % 29 : Nat) : Int) - _
    generalize hr c k x j = B at ih ⊢
    generalize c (k - 1 - j) = C
    obtain ⟨w, hw⟩ := ih
    have hB : (B : Int) = A + 29 * w := by omega
    have h2 : ((B * x + C : Nat) : Int) = x * A + 29 * (x * w) + C := by
      rw [Int.natCast_add, Int.natCast_mul, hB, Int.add_mul, Int.mul_comm A x, Int.mul_assoc, Int.mul_comm w x]
    generalize hN : B * x + C = N at h2 ⊢
    omega
/-- two curves of k numbers that are alike at k places are alike -/
theorem curve_eq {c d : Nat → Nat} {k : Nat} (xs : Nat → Nat) (hc : ∀ j, j < k → c j < 29) (hd : ∀ j, j < k → d j < 29) (hb : ∀ i, i < k → 1 ≤ xs i ∧ xs i ≤ 8) (hi : ∀ i j, i < k → j < k → xs i = xs j → i = j) (hz : ∀ i, i < k → at29 c k (xs i) = at29 d k (xs i)) : ∀ j, j < k → c j = d j := by
  intro j hj
  have key := zero_of k (fun j => (c j : Int) - d j) (fun i => (xs i : Int)) (fun i h => by have := hb i h; omega) (fun i j h1 h2 h3 => hi i j h1 h2 (by omega)) (fun i h => ?_) j hj
  · have := hc j hj
    have := hd j hj
    omega
  · have h1 := hr_ev c k (xs i) k (Nat.le_refl _)
    have h2 := hr_ev d k (xs i) k (Nat.le_refl _)
    have h3 : hr c k (xs i) k = hr d k (xs i) k := hz i h
    rw [Nat.sub_self] at h1 h2
    have h4 : ∀ (n : Nat) (a b : Nat → Int) (x : Int), ev (fun j => a j - b j) n x = ev a n x - ev b n x := by
      intro n
      induction n with
      | zero => intro a b x; rfl
      | succ n ih =>
        intro a b x
        show (a 0 - b 0) + x * ev (fun j => a (j + 1) - b (j + 1)) n x = (a 0 + x * ev (fun j => a (j + 1)) n x) - (b 0 + x * ev (fun j => b (j + 1)) n x)
        rw [ih (fun j => a (j + 1)) (fun j => b (j + 1)) x, Int.mul_sub]
        omega
    have h5 := h4 k (fun j => (c j : Int)) (fun j => (d j : Int)) (xs i)
    have e1 : ev (fun i => (c (i + 0) : Int)) k (xs i) = ev (fun j => (c j : Int)) k (xs i) := rfl
    have e2 : ev (fun i => (d (i + 0) : Int)) k (xs i) = ev (fun j => (d j : Int)) k (xs i) := rfl
    rw [e1] at h1
    rw [e2] at h2
    rw [h5]
    omega
