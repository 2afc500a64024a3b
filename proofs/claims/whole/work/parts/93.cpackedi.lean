section CPKI
variable {S S' : Hp} {q : Nat → Nat} {bo la n : Nat}
def bx0 (S : Hp) (bo : Nat) (q : Nat → Nat) (n : Nat) : Hp := sR (nw (sR (nw (sI (sI S 50 bo 0 (nI (q 2))) 53 bo 0 (nI n)) 23 6) 49 bo 0 (some (bo + 1))) 20 6) 51 bo 0 (some (bo + 2))
theorem bx_s1 (hsz : sz S = bo + 1) : sz (sR (nw (sI (sI S 50 bo 0 (nI (q 2))) 53 bo 0 (nI n)) 23 6) 49 bo 0 (some (bo + 1))) = bo + 2 := by
  show sz S + 1 = bo + 2
  omega
theorem bx_s2 (hsz : sz S = bo + 1) : sz (sI (sI S 50 bo 0 (nI (q 2))) 53 bo 0 (nI n)) = bo + 1 := hsz
theorem bx_sz (hsz : sz S = bo + 1) : sz (bx0 S bo q n) = bo + 3 := by
  show sz S + 1 + 1 = bo + 3
  omega
theorem bx_kd (hsz : sz S = bo + 1) (a : Nat) : kd (bx0 S bo q n) a = if a = bo + 2 then 20 else if a = bo + 1 then 23 else kd S a := by
  unfold bx0
  rw [kd_sR, kd_nw, kd_sR, kd_nw, kd_sI, kd_sI, bx_s1 hsz, bx_s2 hsz]
theorem bx_ln (hsz : sz S = bo + 1) (a : Nat) : ln (bx0 S bo q n) a = if a = bo + 2 then 6 else if a = bo + 1 then 6 else ln S a := by
  unfold bx0
  rw [ln_sR, ln_nw, ln_sR, ln_nw, ln_sI, ln_sI, bx_s1 hsz, bx_s2 hsz]
theorem bx_gI (hsz : sz S = bo + 1) (f a i : Nat) : gI (bx0 S bo q n) f a i = if a = bo + 2 then 0 else if a = bo + 1 then 0 else if f = 53 ∧ a = bo ∧ i = 0 then nI n else if f = 50 ∧ a = bo ∧ i = 0 then nI (q 2) else gI S f a i := by
  unfold bx0
  rw [gI_sR, gI_nw, gI_sR, gI_nw, gI_sI, gI_sI, bx_s1 hsz, bx_s2 hsz]
theorem bx_gR (hsz : sz S = bo + 1) (f a i : Nat) : gR (bx0 S bo q n) f a i = if f = 51 ∧ a = bo ∧ i = 0 then some (bo + 2) else if a = bo + 2 then none else if f = 49 ∧ a = bo ∧ i = 0 then some (bo + 1) else if a = bo + 1 then none else gR S f a i := by
  unfold bx0
  rw [gR_sR, gR_nw, gR_sR, gR_nw, gR_sI, gR_sI, bx_s1 hsz, bx_s2 hsz]
def pk0 (S : Hp) (z bo t T : Nat) : Hp := sR (sI (sI (sR (nw (sR (nw (nw S 5 0) 20 40) 65 z 0 (some (z + 1))) 20 40) 66 z 0 (some (z + 2))) 67 z 0 (nI T)) 68 z 0 0) 0 (bo + 3) t (some z)
theorem pk_s1 {z : Nat} (hsz : sz S = z) : sz (nw S 5 0) = z + 1 := by
  show sz S + 1 = z + 1
  omega
theorem pk_s2 {z : Nat} (hsz : sz S = z) : sz (sR (nw (nw S 5 0) 20 40) 65 z 0 (some (z + 1))) = z + 2 := by
  show sz S + 1 + 1 = z + 2
  omega
theorem pk_kd {z t T : Nat} (hsz : sz S = z) (a : Nat) : kd (pk0 S z bo t T) a = if a = z + 2 then 20 else if a = z + 1 then 20 else if a = z then 5 else kd S a := by
  unfold pk0
  rw [kd_sR, kd_sI, kd_sI, kd_sR, kd_nw, kd_sR, kd_nw, kd_nw, pk_s2 hsz, pk_s1 hsz, hsz]
theorem pk_ln {z t T : Nat} (hsz : sz S = z) (a : Nat) : ln (pk0 S z bo t T) a = if a = z + 2 then 40 else if a = z + 1 then 40 else if a = z then 0 else ln S a := by
  unfold pk0
  rw [ln_sR, ln_sI, ln_sI, ln_sR, ln_nw, ln_sR, ln_nw, ln_nw, pk_s2 hsz, pk_s1 hsz, hsz]
theorem pk_gI {z t T : Nat} (hsz : sz S = z) (f a i : Nat) : gI (pk0 S z bo t T) f a i = if f = 68 ∧ a = z ∧ i = 0 then 0 else if f = 67 ∧ a = z ∧ i = 0 then nI T else if a = z + 2 then 0 else if a = z + 1 then 0 else if a = z then 0 else gI S f a i := by
  unfold pk0
  rw [gI_sR, gI_sI, gI_sI, gI_sR, gI_nw, gI_sR, gI_nw, gI_nw, pk_s2 hsz, pk_s1 hsz, hsz]
theorem pk_gR {z t T : Nat} (hsz : sz S = z) (f a i : Nat) : gR (pk0 S z bo t T) f a i = if f = 0 ∧ a = bo + 3 ∧ i = t then some z else if f = 66 ∧ a = z ∧ i = 0 then some (z + 2) else if a = z + 2 then none else if f = 65 ∧ a = z ∧ i = 0 then some (z + 1) else if a = z + 1 then none else if a = z then none else gR S f a i := by
  unfold pk0
  rw [gR_sR, gR_sI, gR_sI, gR_sR, gR_nw, gR_sR, gR_nw, gR_nw, pk_s2 hsz, pk_s1 hsz, hsz]
/-- all below z stays, but for the place of packet t -/
def Lz (z bo t : Nat) (S1 S2 : Hp) : Prop := (∀ a, a < z → kd S2 a = kd S1 a ∧ ln S2 a = ln S1 a) ∧ (∀ a, a < z → ∀ f i, gI S2 f a i = gI S1 f a i) ∧ ∀ a, a < z → ∀ f i, ¬ (f = 0 ∧ a = bo + 3 ∧ i = t) → gR S2 f a i = gR S1 f a i
theorem BU_lz {S1 S2 : Hp} {z t : Nat} (hz : bo + 4 ≤ z) (hL : Lz z bo t S1 S2) (h : BU S S1 bo la q n) : BU S S2 bo la q n := by
  obtain ⟨h1, ⟨h2, h3, h4⟩, ⟨h5, h5', h5''⟩, ⟨h6, h6', h6''⟩, h7⟩ := h
  obtain ⟨lk, li, lr⟩ := hL
  exact ⟨fun a ha => ⟨((lk a (by omega)).1).trans (h1 a ha).1, ((lk a (by omega)).2).trans (h1 a ha).2.1, fun f i => (li a (by omega) f i).trans ((h1 a ha).2.2.1 f i), fun f i => (lr a (by omega) f i (by omega)).trans ((h1 a ha).2.2.2 f i)⟩, ⟨((lk _ (by omega)).1).trans h2, (li _ (by omega) _ _).trans h3, (li _ (by omega) _ _).trans h4⟩, ⟨(lr _ (by omega) _ _ (by omega)).trans h5, ((lk _ (by omega)).1).trans h5', ((lk _ (by omega)).2).trans h5''⟩, ⟨(lr _ (by omega) _ _ (by omega)).trans h6, ((lk _ (by omega)).1).trans h6', ((lk _ (by omega)).2).trans h6''⟩, fun p hp => (lr _ (by omega) _ _ (by omega)).trans (h7 p hp)⟩
theorem BF_lz {S1 S2 : Hp} {z t : Nat} (hz : bo + 4 ≤ z) (hL : Lz z bo t S1 S2) (h : BF S1 bo q n) : BF S2 bo q n := by
  obtain ⟨h1, ⟨h2, h3, h4⟩, h5⟩ := h
  obtain ⟨lk, li, lr⟩ := hL
  exact ⟨(li _ (by omega) _ _).trans h1, ⟨(lr _ (by omega) _ _ (by omega)).trans h2, ((lk _ (by omega)).1).trans h3, ((lk _ (by omega)).2).trans h4⟩, fun p hp => (li _ (by omega) _ _).trans (h5 p hp)⟩
theorem PkAt_lz {S1 S2 : Hp} {z t t' : Nat} (hz : z = bo + 4 + 3 * t) (ht : t' < t) (hL : Lz z bo t S1 S2) (h : PkAt S1 bo q t') : PkAt S2 bo q t' := by
  obtain ⟨⟨h1, h2, ⟨h3, h3', h3''⟩, h4, h4', h4''⟩, ⟨h5, h6⟩, h7⟩ := h
  obtain ⟨lk, li, lr⟩ := hL
  exact ⟨⟨(lr _ (by omega) _ _ (by omega)).trans h1, ((lk _ (by omega)).1).trans h2, ⟨(lr _ (by omega) _ _ (by omega)).trans h3, ((lk _ (by omega)).1).trans h3', ((lk _ (by omega)).2).trans h3''⟩, (lr _ (by omega) _ _ (by omega)).trans h4, ((lk _ (by omega)).1).trans h4', ((lk _ (by omega)).2).trans h4''⟩, ⟨(li _ (by omega) _ _).trans h5, (li _ (by omega) _ _).trans h6⟩, fun p hp s hs => ⟨(li _ (by omega) _ _).trans (h7 p hp s hs).1, (li _ (by omega) _ _).trans (h7 p hp s hs).2⟩⟩
theorem c_packedInit {Q : Hp → Prop} {x2 x3 : Int32} (h4 : kd S bo = 4) (hsz : sz S = bo + 1) (hz : ∀ a, bo + 1 ≤ a → kd S a = 0) (hla : la + 1 < bo) (hl3 : kd S la = 3) (hl33 : AR S 33 la (la + 1) 23 6) (hX : PX S bo la q) (h6 : q 2 ≤ 6) (hPV : ∀ p, p < q 2 → PV q p) (hT : plK q 9 ≤ 40) (hn : n ≤ 8) (e2 : x2 = nI (q 2)) (e3 : x3 = nI n)
    (hQ : ∀ S', BU S S' bo la q n → BF S' bo q n → (∀ t, t < n → PkAt S' bo q t) → sz S' = bo + 4 + 3 * n → (∀ a, bo + 4 + 3 * n ≤ a → kd S' a = 0) → Q S') : wp_X3_init bo la x2 x3 S Q := by
  subst e2 e3
  refine j_min (a := q 2) (b := 6) (by omega) (by omega) ?_
  rw [show min (q 2) 6 = q 2 by omega]
  refine j_max (a := 0) (b := q 2) (by omega) (by omega) ⟨h4, ?_⟩
  rw [show max 0 (q 2) = q 2 by omega]
  rintro _ rfl
  refine j_min (a := n) (b := 8) (by omega) (by omega) ?_
  rw [show min n 8 = n by omega]
  refine j_max (a := 0) (b := n) (by omega) (by omega) ⟨h4, ?_⟩
  rw [show max 0 n = n by omega]
  rintro _ rfl
  refine ⟨by omega, by omega, ?_⟩
  rintro _ rfl _ rfl
  have kb : kd (nw (sI (sI S 50 bo 0 (nI (q 2))) 53 bo 0 (nI n)) 23 6) bo = 4 := by
    rw [kd_nw, bx_s2 hsz, if_neg (by omega)]
    exact h4
  refine ⟨kb, ?_⟩
  rintro _ rfl
  refine ⟨by omega, by omega, ?_⟩
  rintro _ rfl _ rfl
  rw [bx_s2 hsz]
  refine ⟨by rw [kd_nw, bx_s1 hsz, if_neg (by omega), kd_sR]; exact kb, ?_⟩
  rintro _ rfl
  rw [bx_s1 hsz]
  have hb0 : sR (nw (sR (nw (sI (sI S 50 bo 0 (nI (q 2))) 53 bo 0 (nI n)) 23 6) 49 bo 0 (some (bo + 1))) 20 6) 51 bo 0 (some (bo + 2)) = bx0 S bo q n := rfl
  rw [hb0]
  have xk := bx_kd (S := S) (bo := bo) (q := q) (n := n) hsz
  have xl := bx_ln (S := S) (bo := bo) (q := q) (n := n) hsz
  have xi := bx_gI (S := S) (bo := bo) (q := q) (n := n) hsz
  have xr := bx_gR (S := S) (bo := bo) (q := q) (n := n) hsz
  have xs := bx_sz (S := S) (bo := bo) (q := q) (n := n) hsz
  generalize bx0 S bo q n = S0 at *
  -- the loop that copies the row
  have key := Lp_for (B := fun K y => wb_X3_init_52 (fun w0 w1 w2 w3 => K (w0, w1, w2, w3)) Q bo la y.1 y.2.1 y.2.2.1 y.2.2.2) (fun i => (nI i, cpR S0 (la + 1) (bo + 1) i, 27 - 1 - 1, 692 - 6 - 6)) 6 (fun i hi K hK => ?_) (fun K => ?_) (i := 0) (by omega)
  · rw [cpR_0] at key
    exact key
  · obtain ⟨a, ha, hab, hk6⟩ := hX.1 i hi
    dsimp only
    refine ⟨fun hc => ?_, fun _ => ⟨?_, ?_, la + 1, ?_, ?_, ?_, bo + 1, ?_, a, ?_, ?_, ?_, ?_, ?_⟩⟩
    · rw [li_6, nI_leI (by omega) (by omega)] at hc
      omega
    · show kd S0 bo = 4
      rw [xk, if_neg (by omega), if_neg (by omega)]
      exact h4
    · show kd S0 la = 3
      rw [xk, if_neg (by omega), if_neg (by omega)]
      exact hl3
    · rw [gR_cpR, if_neg (by omega), xr, if_neg (by omega), if_neg (by omega), if_neg (by omega), if_neg (by omega)]
      exact hl33.1
    · show kd S0 (la + 1) = 23
      rw [xk, if_neg (by omega), if_neg (by omega)]
      exact hl33.2.1
    · show vp_in _ (ln S0 (la + 1))
      rw [xl, if_neg (by omega), if_neg (by omega), hl33.2.2]
      exact vp_li (by omega) (by omega)
    · rw [gR_cpR, if_neg (by omega), xr, if_neg (by omega), if_neg (by omega), if_pos ⟨rfl, rfl, rfl⟩]
    · rw [nI_clamp (by omega), gR_cpR, if_neg (by omega), xr, if_neg (by omega), if_neg (by omega), if_neg (by omega), if_neg (by omega)]
      exact ha
    · show kd S0 (bo + 1) = 23
      rw [xk, if_neg (by omega), if_pos rfl]
    · show kd S0 a = 6
      rw [xk, if_neg (by omega), if_neg (by omega)]
      exact hk6
    · show vp_in _ (ln S0 (bo + 1))
      rw [xl, if_neg (by omega), if_pos rfl]
      exact vp_li (by omega) (by omega)
    · rintro _ rfl _ rfl
      have e : gR S0 0 (la + 1) i = some a := by
        rw [xr, if_neg (by omega), if_neg (by omega), if_neg (by omega), if_neg (by omega)]
        exact ha
      rw [nI_clamp (by omega), ← e, cpR_up, nI_1]
      exact hK
  · have hB : BU S (cpR S0 (la + 1) (bo + 1) 6) bo la q n := by
      refine ⟨fun a ha => ⟨?_, ?_, fun f i => ?_, fun f i => ?_⟩, ⟨?_, ?_, ?_⟩, ⟨?_, ?_, ?_⟩, ⟨?_, ?_, ?_⟩, fun p hp => ?_⟩
      · show kd S0 a = _
        rw [xk, if_neg (by omega), if_neg (by omega)]
      · show ln S0 a = _
        rw [xl, if_neg (by omega), if_neg (by omega)]
      · rw [gI_cpR, xi, if_neg (by omega), if_neg (by omega), if_neg (by omega), if_neg (by omega)]
      · rw [gR_cpR, if_neg (by omega), xr, if_neg (by omega), if_neg (by omega), if_neg (by omega), if_neg (by omega)]
      · show kd S0 bo = 4
        rw [xk, if_neg (by omega), if_neg (by omega)]
        exact h4
      · rw [gI_cpR, xi, if_neg (by omega), if_neg (by omega), if_neg (by omega), if_pos ⟨rfl, rfl, rfl⟩]
      · rw [gI_cpR, xi, if_neg (by omega), if_neg (by omega), if_pos ⟨rfl, rfl, rfl⟩]
      · rw [gR_cpR, if_neg (by omega), xr, if_neg (by omega), if_neg (by omega), if_pos ⟨rfl, rfl, rfl⟩]
      · show kd S0 (bo + 1) = 23
        rw [xk, if_neg (by omega), if_pos rfl]
      · show ln S0 (bo + 1) = 6
        rw [xl, if_neg (by omega), if_pos rfl]
      · rw [gR_cpR, if_neg (by omega), xr, if_pos ⟨rfl, rfl, rfl⟩]
      · show kd S0 (bo + 2) = 20
        rw [xk, if_pos rfl]
      · show ln S0 (bo + 2) = 6
        rw [xl, if_pos rfl]
      · rw [gR_cpR, if_pos ⟨rfl, rfl, hp⟩, xr, if_neg (by omega), if_neg (by omega), if_neg (by omega), if_neg (by omega)]
    have zs : sz (cpR S0 (la + 1) (bo + 1) 6) = bo + 3 := xs
    have zk : ∀ a, bo + 3 ≤ a → kd (cpR S0 (la + 1) (bo + 1) 6) a = 0 := fun a ha => by
      show kd S0 a = 0
      rw [xk, if_neg (by omega), if_neg (by omega)]
      exact hz a (by omega)
    dsimp only
    refine ⟨fun _ => ?_, fun hc => absurd (nI_le (Nat.le_refl 6) (by omega)) hc⟩
    clear xk xl xi xr xs
    generalize cpR S0 (la + 1) (bo + 1) 6 = S1 at *
    refine ⟨hB.2.1.1, c_order hB hX h6 hPV hT fun g hg => ?_⟩
    have hB2 := BU_setA (g := g) hB
    have hg2 : ∀ p, p < q 2 → gI (setA S1 (bo + 2) g) 0 (bo + 2) p = nI (frst q p) := fun p hp => by rw [setA_at]; exact hg p hp
    have zs2 : sz (setA S1 (bo + 2) g) = bo + 3 := zs
    have zk2 : ∀ a, bo + 3 ≤ a → kd (setA S1 (bo + 2) g) a = 0 := zk
    generalize setA S1 (bo + 2) g = S2 at *
    obtain ⟨d1, ⟨d2, d3, d4⟩, ⟨d5, d5', d5''⟩, ⟨d6, d6', d6''⟩, d7⟩ := id hB2
    refine ⟨d2, ?_⟩
    rintro _ rfl
    have e53 : gI (sI S2 54 bo 0 (nI (plK q 9))) 53 bo 0 = nI n := by rw [gI_sI, if_neg (by omega)]; exact d4
    refine ⟨d2, by omega, by rw [e53, nI_clamp (by omega)]; omega, by rw [e53]; exact nI_pos (by omega), by rw [e53, nI_clamp (by omega)]; omega, ?_⟩
    rw [e53, nI_clamp (by omega)]
    rintro _ rfl _ rfl
    have zs3 : sz (sI S2 54 bo 0 (nI (plK q 9))) = bo + 3 := zs2
    rw [zs3]
    refine ⟨by rw [kd_nw, zs3, if_neg (by omega)]; exact d2, ?_⟩
    rintro _ rfl
    -- behind the array of packets
    have yk : ∀ a, kd (sR (nw (sI S2 54 bo 0 (nI (plK q 9))) 22 n) 52 bo 0 (some (bo + 3))) a = if a = bo + 3 then 22 else kd S2 a := fun a => by rw [kd_sR, kd_nw, zs3, kd_sI]
    have yl : ∀ a, ln (sR (nw (sI S2 54 bo 0 (nI (plK q 9))) 22 n) 52 bo 0 (some (bo + 3))) a = if a = bo + 3 then n else ln S2 a := fun a => by rw [ln_sR, ln_nw, zs3, ln_sI]
    have yi : ∀ f a i, gI (sR (nw (sI S2 54 bo 0 (nI (plK q 9))) 22 n) 52 bo 0 (some (bo + 3))) f a i = if a = bo + 3 then 0 else if f = 54 ∧ a = bo ∧ i = 0 then nI (plK q 9) else gI S2 f a i := fun f a i => by rw [gI_sR, gI_nw, zs3, gI_sI]
    have yr : ∀ f a i, gR (sR (nw (sI S2 54 bo 0 (nI (plK q 9))) 22 n) 52 bo 0 (some (bo + 3))) f a i = if f = 52 ∧ a = bo ∧ i = 0 then some (bo + 3) else if a = bo + 3 then none else gR S2 f a i := fun f a i => by rw [gR_sR, gR_nw, zs3, gR_sI]
    have ys : sz (sR (nw (sI S2 54 bo 0 (nI (plK q 9))) 22 n) 52 bo 0 (some (bo + 3))) = bo + 4 := by
      rw [sz_sR, sz_nw, zs3]
    generalize sR (nw (sI S2 54 bo 0 (nI (plK q 9))) 22 n) 52 bo 0 (some (bo + 3)) = S3 at *
    have hB3 : BU S S3 bo la q n := by
      refine ⟨fun a ha => ⟨?_, ?_, fun f i => ?_, fun f i => ?_⟩, ⟨?_, ?_, ?_⟩, ⟨?_, ?_, ?_⟩, ⟨?_, ?_, ?_⟩, fun p hp => ?_⟩
      · rw [yk, if_neg (by omega)]
        exact (d1 a ha).1
      · rw [yl, if_neg (by omega)]
        exact (d1 a ha).2.1
      · rw [yi, if_neg (by omega), if_neg (by omega)]
        exact (d1 a ha).2.2.1 f i
      · rw [yr, if_neg (by omega), if_neg (by omega)]
        exact (d1 a ha).2.2.2 f i
      · rw [yk, if_neg (by omega)]
        exact d2
      · rw [yi, if_neg (by omega), if_neg (by omega)]
        exact d3
      · rw [yi, if_neg (by omega), if_neg (by omega)]
        exact d4
      · rw [yr, if_neg (by omega), if_neg (by omega)]
        exact d5
      · rw [yk, if_neg (by omega)]
        exact d5'
      · rw [yl, if_neg (by omega)]
        exact d5''
      · rw [yr, if_neg (by omega), if_neg (by omega)]
        exact d6
      · rw [yk, if_neg (by omega)]
        exact d6'
      · rw [yl, if_neg (by omega)]
        exact d6''
      · rw [yr, if_neg (by omega), if_neg (by omega)]
        exact d7 p hp
    have hF3 : BF S3 bo q n := by
      refine ⟨?_, ⟨?_, ?_, ?_⟩, fun p hp => ?_⟩
      · rw [yi, if_neg (by omega), if_pos ⟨rfl, rfl, rfl⟩]
      · rw [yr, if_pos ⟨rfl, rfl, rfl⟩]
      · rw [yk, if_pos rfl]
      · rw [yl, if_pos rfl]
      · rw [yi, if_neg (by omega), if_neg (by omega)]
        exact hg2 p hp
    have hZ3 : ∀ a, bo + 4 ≤ a → kd S3 a = 0 := fun a ha => by
      rw [yk, if_neg (by omega)]
      exact zk2 a (by omega)
    clear yk yl yi yr
    refine Lp_of (fun m y => ∃ t S1, t ≤ n ∧ m = n - t ∧ y = (nI t, S1, 24 - 3 * t, 680 - n - 84 * t) ∧ BU S S1 bo la q n ∧ BF S1 bo q n ∧ (∀ t', t' < t → PkAt S1 bo q t') ∧ sz S1 = bo + 4 + 3 * t ∧ ∀ a, bo + 4 + 3 * t ≤ a → kd S1 a = 0) (fun m y hy K hK => ?_) (n := n) (x := (nI 0, S3, 27 - 1 - 1 - 1, 692 - 6 - 6 - n)) ⟨0, S3, by omega, rfl, rfl, hB3, hF3, fun t' ht' => absurd ht' (Nat.not_lt_zero t'), ys, hZ3⟩
    obtain ⟨t, S4, ht, rfl, rfl, hB4, hF4, hP4, hs4, hZ4⟩ := hy
    dsimp only
    refine ⟨hB4.2.1.1, fun he => ?_, fun he => ?_⟩
    · rw [hB4.2.1.2.2, nI_leI (by omega) (by omega)] at he
      obtain rfl : t = n := by omega
      exact hQ S4 hB4 hF4 hP4 hs4 hZ4
    · rw [hB4.2.1.2.2, nI_leI (by omega) (by omega)] at he
      refine ⟨hB4.2.1.1, by omega, by omega, ?_⟩
      rintro _ rfl _ rfl
      have f54 : gI (nw S4 5 0) 54 bo 0 = nI (plK q 9) := by
        rw [gI_nw, hs4, if_neg (by omega)]
        exact hF4.1
      refine ⟨by rw [kd_nw, hs4, if_neg (by omega)]; exact hB4.2.1.1, by omega, by omega, _, hF4.2.1.1, ?_⟩
      rw [f54, hs4]
      have q1 := pk_s1 (S := S4) hs4
      refine ⟨by omega, by omega, ?_⟩
      rintro _ rfl _ rfl
      rw [q1]
      refine ⟨by rw [kd_nw, q1, if_neg (by omega), kd_nw, hs4, if_pos rfl], ?_⟩
      rintro _ rfl
      have q2 := pk_s2 (S := S4) hs4
      refine ⟨by omega, by omega, ?_⟩
      rintro _ rfl _ rfl
      rw [q2]
      have kz : ∀ S'' : Hp, kd S'' = kd (nw (sR (nw (nw S4 5 0) 20 40) 65 (bo + 4 + 3 * t) 0 (some (bo + 4 + 3 * t + 1))) 20 40) → kd S'' (bo + 4 + 3 * t) = 5 := fun S'' e => by
        rw [e, kd_nw, q2, if_neg (by omega), kd_sR, kd_nw, q1, if_neg (by omega), kd_nw, hs4, if_pos rfl]
      refine ⟨kz _ rfl, ?_⟩
      rintro _ rfl
      refine j_min (a := plK q 9) (b := 40) (by omega) (by omega) ⟨kz _ rfl, ?_⟩
      rw [show min (plK q 9) 40 = plK q 9 by omega]
      rintro _ rfl
      refine ⟨kz _ rfl, Or.inl rfl, ?_⟩
      rintro _ rfl
      have k22 : kd (nw (sR (nw (nw S4 5 0) 20 40) 65 (bo + 4 + 3 * t) 0 (some (bo + 4 + 3 * t + 1))) 20 40) (bo + 3) = 22 := by
        rw [kd_nw, q2, if_neg (by omega), kd_sR, kd_nw, q1, if_neg (by omega), kd_nw, hs4, if_neg (by omega)]
        exact hF4.2.1.2.1
      have l22 : ln (nw (sR (nw (nw S4 5 0) 20 40) 65 (bo + 4 + 3 * t) 0 (some (bo + 4 + 3 * t + 1))) 20 40) (bo + 3) = n := by
        rw [ln_nw, q2, if_neg (by omega), ln_sR, ln_nw, q1, if_neg (by omega), ln_nw, hs4, if_neg (by omega)]
        exact hF4.2.1.2.2
      refine ⟨k22, kz _ rfl, by rw [ln_sI, ln_sI, ln_sR, l22]; exact vp_li (by omega) (by omega), ?_⟩
      rintro _ rfl
      rw [nI_clamp (by omega)]
      have hp0 : sR (sI (sI (sR (nw (sR (nw (nw S4 5 0) 20 40) 65 (bo + 4 + 3 * t) 0 (some (bo + 4 + 3 * t + 1))) 20 40) 66 (bo + 4 + 3 * t) 0 (some (bo + 4 + 3 * t + 2))) 67 (bo + 4 + 3 * t) 0 (nI (plK q 9))) 68 (bo + 4 + 3 * t) 0 0) 0 (bo + 3) t (some (bo + 4 + 3 * t)) = pk0 S4 (bo + 4 + 3 * t) bo t (plK q 9) := rfl
      rw [hp0]
      have pk := pk_kd (S := S4) (bo := bo) (t := t) (T := plK q 9) hs4
      have pl := pk_ln (S := S4) (bo := bo) (t := t) (T := plK q 9) hs4
      have pi := pk_gI (S := S4) (bo := bo) (t := t) (T := plK q 9) hs4
      have pr := pk_gR (S := S4) (bo := bo) (t := t) (T := plK q 9) hs4
      have ps : sz (pk0 S4 (bo + 4 + 3 * t) bo t (plK q 9)) = bo + 4 + 3 * (t + 1) := by
        show sz S4 + 1 + 1 + 1 = _
        omega
      clear hp0 k22 l22 kz
      generalize pk0 S4 (bo + 4 + 3 * t) bo t (plK q 9) = S5 at *
      have hL5 : Lz (bo + 4 + 3 * t) bo t S4 S5 := by
        refine ⟨fun a ha => ⟨?_, ?_⟩, fun a ha f i => ?_, fun a ha f i hne => ?_⟩
        · rw [pk, if_neg (by omega), if_neg (by omega), if_neg (by omega)]
        · rw [pl, if_neg (by omega), if_neg (by omega), if_neg (by omega)]
        · rw [pi, if_neg (by omega), if_neg (by omega), if_neg (by omega), if_neg (by omega), if_neg (by omega)]
        · rw [pr, if_neg hne, if_neg (by omega), if_neg (by omega), if_neg (by omega), if_neg (by omega), if_neg (by omega)]
      have hB5 := BU_lz (by omega) hL5 hB4
      have hF5 := BF_lz (by omega) hL5 hF4
      have k5 : kd S5 (bo + 4 + 3 * t) = 5 := by rw [pk, if_neg (by omega), if_neg (by omega), if_pos rfl]
      have r5 : gR S5 0 (bo + 3) t = some (bo + 4 + 3 * t) := by rw [pr, if_pos ⟨rfl, rfl, rfl⟩]
      have a65 : AR S5 65 (bo + 4 + 3 * t) (bo + 5 + 3 * t) 20 40 := by
        rw [show bo + 5 + 3 * t = bo + 4 + 3 * t + 1 by omega]
        refine ⟨?_, ?_, ?_⟩
        · rw [pr, if_neg (by omega), if_neg (by omega), if_neg (by omega), if_pos ⟨rfl, rfl, rfl⟩]
        · rw [pk, if_neg (by omega), if_pos rfl]
        · rw [pl, if_neg (by omega), if_pos rfl]
      have a66 : AR S5 66 (bo + 4 + 3 * t) (bo + 6 + 3 * t) 20 40 := by
        rw [show bo + 6 + 3 * t = bo + 4 + 3 * t + 2 by omega]
        refine ⟨?_, ?_, ?_⟩
        · rw [pr, if_neg (by omega), if_pos ⟨rfl, rfl, rfl⟩]
        · rw [pk, if_pos rfl]
        · rw [pl, if_pos rfl]
      have i67 : gI S5 67 (bo + 4 + 3 * t) 0 = nI (plK q 9) := by rw [pi, if_neg (by omega), if_pos ⟨rfl, rfl, rfl⟩]
      have i68 : gI S5 68 (bo + 4 + 3 * t) 0 = 0 := by rw [pi, if_pos ⟨rfl, rfl, rfl⟩]
      have hZ5 : ∀ a, bo + 4 + 3 * (t + 1) ≤ a → kd S5 a = 0 := fun a ha => by
        rw [pk, if_neg (by omega), if_neg (by omega), if_neg (by omega)]
        exact hZ4 a (by omega)
      clear pk pl pi pr
      refine ⟨hB5.2.1.1, _, hF5.2.1.1, hF5.2.1.2.1, by rw [hF5.2.1.2.2]; exact vp_li (by omega) (by omega), _, r5, hB5.2.1.1, ?_⟩
      rw [nI_1]
      refine c_fill hB5 hF5.2.2 hX h6 hPV hT (by omega) k5 a65 a66 fun S6 hG6 hv6 => ?_
      rintro _ rfl
      obtain ⟨gk, gs, gr, gi⟩ := id hG6
      have hL6 : Lz (bo + 4 + 3 * t) bo t S4 S6 := ⟨fun a ha => ⟨((gk a).1).trans (hL5.1 a ha).1, ((gk a).2).trans (hL5.1 a ha).2⟩, fun a ha f i => (gi f a i (fun w => by have := w.2; omega)).trans (hL5.2.1 a ha f i), fun a ha f i hne => (gr f a i).trans (hL5.2.2 a ha f i hne)⟩
      refine hK _ (n - (t + 1)) (by omega) ⟨t + 1, S6, by omega, rfl, ?_, BU_lz (by omega) hL6 hB4, BF_lz (by omega) hL6 hF4, fun t' ht' => ?_, gs.trans ps, fun a ha => ((gk a).1).trans (hZ5 a ha)⟩
      · rw [show 24 - 3 * t - 1 - 2 = 24 - 3 * (t + 1) by omega, show 680 - n - 84 * t - 4 - 80 = 680 - n - 84 * (t + 1) by omega]
      · by_cases e : t' = t
        · subst e
          exact ⟨⟨(gr _ _ _).trans r5, ((gk _).1).trans k5, ⟨(gr _ _ _).trans a65.1, ((gk _).1).trans a65.2.1, ((gk _).2).trans a65.2.2⟩, (gr _ _ _).trans a66.1, ((gk _).1).trans a66.2.1, ((gk _).2).trans a66.2.2⟩, ⟨(gi _ _ _ (fun w => by have := w.1; omega)).trans i67, (gi _ _ _ (fun w => by have := w.1; omega)).trans i68⟩, hv6⟩
        · exact PkAt_lz rfl (by omega) hL6 (hP4 t' (by omega))
end CPKI
