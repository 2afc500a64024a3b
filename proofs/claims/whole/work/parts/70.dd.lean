/-! ===== divided differences ===== -/
def qv (g : Nat → Int) (u : Int) (j : Nat) : Int := ev (fun i => g (i + (j + 1))) 8 u
def S8 (g : Nat → Int) (d : Nat) : Prop := ∀ j, d ≤ j → g j = 0
theorem qv_S8 {g : Nat → Int} {u : Int} {d : Nat} (h : S8 g (d + 1)) : S8 (qv g u) d := fun j hj => ev_zero fun i _ => h _ (by omega)
theorem S8_le {g : Nat → Int} {d d' : Nat} (h : S8 g d) (hd : d ≤ d') : S8 g d' := fun j hj => h j (by omega)
theorem ev_S8 {g : Nat → Int} {d n : Nat} {x : Int} (h : S8 g d) (hn : d ≤ n) : ev g n x = ev g d x := ev_tail hn (fun j h1 _ => h j h1)
theorem qv_A {g : Nat → Int} {x u : Int} (h : S8 g 8) : ev g 8 x = (x - u) * ev (qv g u) 8 x + ev g 8 u := by
  have h1 := ev_quo 7 g u x
  have h2 : ev (qv g u) 8 x = ev (quo g 7 u) 7 x := by
    rw [ev_S8 (qv_S8 (d := 7) (S8_le h (by omega))) (n := 8) (by omega)]
    refine ev_congr fun j hj => ?_
    unfold qv quo
    exact ev_tail (by omega) (fun i h1 _ => h _ (by omega))
  rw [h2]
  exact h1
theorem qv_B {g : Nat → Int} {w u : Int} (h : S8 g 8) (j : Nat) : qv g w j - qv g u j = (w - u) * qv (qv g u) w j := by
  have h1 := qv_A (g := fun i => g (i + (j + 1))) (x := w) (u := u) (fun i hi => h _ (by omega))
  have e : ev (qv (fun i => g (i + (j + 1))) u) 8 w = qv (qv g u) w j := by
    unfold qv
    refine ev_congr fun i _ => ?_
    show ev (fun i_1 => g (i_1 + (i + 1) + (j + 1))) 8 u = ev (fun i_1 => g (i_1 + (i + (j + 1) + 1))) 8 u
    exact ev_congr fun l _ => congrArg g (by omega)
  rw [e] at h1
  show ev (fun i => g (i + (j + 1))) 8 w - ev (fun i => g (i + (j + 1))) 8 u = _
  omega
theorem qv_lin {f g h : Nat → Int} {b u : Int} (e : ∀ j, f j = g j + b * h j) (j : Nat) : qv f u j = qv g u j + b * qv h u j := by
  unfold qv
  rw [← ev_lin]
  exact ev_congr fun i _ => e _
def Qp (e X : Nat → Int) (a : Nat) : Nat → Nat → Int
  | 0 => e
  | m + 1 => qv (Qp e X a m) (X (a + m))
theorem Qp_S {e X : Nat → Int} {d : Nat} (h : S8 e d) (a : Nat) : ∀ m, S8 (Qp e X a m) (d - m)
  | 0 => h
  | m + 1 => by
    have ih := Qp_S h a (X := X) m
    exact qv_S8 (S8_le ih (by omega))
theorem Qp_S8 {e X : Nat → Int} (h : S8 e 8) (a m : Nat) : S8 (Qp e X a m) 8 := S8_le (Qp_S h a m) (by omega)
theorem Qp_C {e X : Nat → Int} (h : S8 e 8) (a : Nat) : ∀ m j, Qp e X (a + 1) m j = Qp e X a m j + (X (a + m) - X a) * Qp e X a (m + 1) j
  | 0, j => by
    show e j = e j + (X (a + 0) - X a) * _
    rw [Nat.add_zero, Int.sub_self, Int.zero_mul, Int.add_zero]
  | m + 1, j => by
    have ih := Qp_C h a (X := X) m
    show qv (Qp e X (a + 1) m) (X (a + 1 + m)) j = qv (Qp e X a m) (X (a + m)) j + (X (a + (m + 1)) - X a) * qv (qv (Qp e X a m) (X (a + m))) (X (a + (m + 1))) j
    rw [show a + 1 + m = a + (m + 1) by omega, qv_lin ih]
    have hB := qv_B (g := Qp e X a m) (w := X (a + (m + 1))) (u := X (a + m)) (Qp_S8 h a m) j
    have e1 : qv (Qp e X a (m + 1)) (X (a + (m + 1))) j = qv (qv (Qp e X a m) (X (a + m))) (X (a + (m + 1))) j := rfl
    rw [e1]
    generalize qv (qv (Qp e X a m) (X (a + m))) (X (a + (m + 1))) j = Z at hB ⊢
    rw [Int.sub_mul] at hB ⊢
    rw [Int.sub_mul]
    omega
/-- the divided difference over the m + 1 points that end with the i-th -/
def DD (e X : Nat → Int) (m i : Nat) : Int := ev (Qp e X (i - m) m) 8 (X i)
theorem DD_step {e X : Nat → Int} (h : S8 e 8) {m i : Nat} (hi : m + 1 ≤ i) : DD e X m i - DD e X m (i - 1) = (X i - X (i - (m + 1))) * DD e X (m + 1) i := by
  obtain ⟨a, rfl⟩ : ∃ a, i = a + m + 1 := ⟨i - m - 1, by omega⟩
  unfold DD
  rw [show a + m + 1 - m = a + 1 by omega, show a + m + 1 - 1 - m = a by omega, show a + m + 1 - 1 = a + m by omega, show a + m + 1 - (m + 1) = a by omega]
  have hA := qv_A (g := Qp e X a m) (x := X (a + m + 1)) (u := X (a + m)) (Qp_S8 h a m)
  have e1 : ev (Qp e X (a + 1) m) 8 (X (a + m + 1)) = ev (Qp e X a m) 8 (X (a + m + 1)) + (X (a + m) - X a) * ev (Qp e X a (m + 1)) 8 (X (a + m + 1)) := by
    rw [← ev_lin]
    exact ev_congr fun j _ => Qp_C h a m j
  have e2 : ev (qv (Qp e X a m) (X (a + m))) 8 (X (a + m + 1)) = ev (Qp e X a (m + 1)) 8 (X (a + m + 1)) := rfl
  rw [e2] at hA
  rw [e1]
  generalize ev (Qp e X a (m + 1)) 8 (X (a + m + 1)) = Z at hA ⊢
  rw [Int.sub_mul] at hA ⊢
  rw [Int.sub_mul]
  omega
theorem qv_E1 {g : Nat → Int} {u : Int} (h : S8 g 8) (j : Nat) : g (j + 1) = qv g u j - u * qv g u (j + 1) := by
  have e1 : qv g u j = g (j + 1) + u * ev (fun i => g (i + 1 + (j + 1))) 7 u := by
    show g (0 + (j + 1)) + u * ev (fun i => g (i + 1 + (j + 1))) 7 u = _
    rw [Nat.zero_add]
  have e2 : qv g u (j + 1) = ev (fun i => g (i + 1 + (j + 1))) 7 u := by
    unfold qv
    rw [ev_tail (k := 7) (by omega) (fun i h1 _ => h _ (by omega))]
    exact ev_congr fun i _ => congrArg g (by omega)
  rw [e1, e2]
  omega
theorem qv_E0 {g : Nat → Int} {u : Int} : g 0 = ev g 8 u - u * qv g u 0 + u * (qv g u 0 - ev (fun i => g (i + 1)) 7 u) := by
  have e1 : ev g 8 u = g 0 + u * ev (fun i => g (i + 1)) 7 u := rfl
  rw [e1, Int.mul_sub]
  omega
theorem qv_E {g : Nat → Int} {u : Int} (h : S8 g 8) : g 0 = ev g 8 u - u * qv g u 0 := by
  have e1 : ev g 8 u = g 0 + u * ev (fun i => g (i + 1)) 7 u := rfl
  have e2 : qv g u 0 = ev (fun i => g (i + 1)) 7 u := by
    unfold qv
    exact ev_tail (k := 7) (by omega) (fun i h1 _ => h _ (by omega))
  rw [e1, e2]
  omega
/-! ===== a curve through any few packets there is ===== -/
theorem flt_sub {T L : List Nat} (hL : L.Nodup) (h : List.Sublist T L) : L.filter (fun t => decide (t ∈ T)) = T := by
  induction h with
  | slnil => rfl
  | @cons T L a hs ih =>
    have hnd := List.nodup_cons.mp hL
    have ha : a ∉ T := fun w => hnd.1 (hs.subset w)
    rw [List.filter_cons_of_neg (by simp [ha])]
    exact ih hnd.2
  | @cons_cons T L a hs ih =>
    have hnd := List.nodup_cons.mp hL
    rw [List.filter_cons_of_pos (by simp)]
    congr 1
    refine Eq.trans (List.filter_congr fun t ht => ?_) (ih hnd.2)
    have : t ≠ a := fun w => hnd.1 (w ▸ ht)
    simp [this]
theorem thr_ex {y : Nat → Nat} {T : List Nat} (hy : ∀ t, t < 8 → y t < 29) (hT : List.Sublist T (List.range 8)) : ∃ c, Thr y T.length T c ∧ ∀ j, T.length ≤ j → c j = 0 := by
  have hp : pts (mkS (fun t => decide (t ∈ T)) 8) 8 = T := by
    rw [mkS_pts]
    exact flt_sub List.nodup_range hT
  obtain ⟨c, th, h⟩ := lay_ex (y := y) (m := mkS (fun t => decide (t ∈ T)) 8) 8 (by omega)
  obtain ⟨h1, h2⟩ := LayI_thr hy (k := T.length) (by rw [← pts_len, hp]) h
  rw [hp] at h1
  exact ⟨c, h1, h2⟩
theorem inv_ok : ∀ n, n < 29 → n ≠ 0 → ∃ v, v < 29 ∧ invT n = nI v ∧ n * v % 29 = 1 := by decide +kernel
