/-! ===== the constructors: the class itself ===== -/
section INIT3
variable {S S' S1 : Hp} {x w z k : Nat}
theorem nwf (hs : sz S = z) (hz : ∀ a, z ≤ a → kd S a = 0) (k : Nat) : kd (nw S k 0) z = k ∧ z < sz (nw S k 0) ∧ sz (nw S k 0) = z + 1 ∧ (∀ a, sz (nw S k 0) ≤ a → kd (nw S k 0) a = 0) ∧ (∀ f i, gI (nw S k 0) f z i = 0) ∧ ∀ a, a < z → Sm S (nw S k 0) a := by
  subst hs
  refine ⟨by rw [kd_nw, if_pos rfl], by rw [sz_nw]; omega, rfl, fun a ha => ?_, fun f i => by rw [gI_nw, if_pos rfl], fun a ha => ⟨?_, ?_, fun f i => ?_, fun f i => ?_⟩⟩
  · rw [sz_nw] at ha
    rw [kd_nw, if_neg (by omega)]
    exact hz a (by omega)
  · rw [kd_nw, if_neg (by omega)]
  · rw [ln_nw, if_neg (by omega)]
  · rw [gI_nw, if_neg (by omega)]
  · rw [gR_nw, if_neg (by omega)]
theorem Sm_t {S2 : Hp} {a : Nat} (h : Sm S S1 a) (h' : Sm S1 S2 a) : Sm S S2 a := ⟨h'.1.trans h.1, h'.2.1.trans h.2.1, fun f i => (h'.2.2.1 f i).trans (h.2.2.1 f i), fun f i => (h'.2.2.2 f i).trans (h.2.2.2 f i)⟩
theorem Sm_gw (hs : sz S = w) (hz : ∀ a, w ≤ a → kd S a = 0) (h : Gw (nw S k 0) S1 w z) : ∀ a, a < w → Sm S S1 a := fun a ha => by
  obtain ⟨-, -, n3, -, -, n6⟩ := nwf hs hz k
  exact Sm_t (n6 a ha) ⟨(h.1 a (by omega)).1, (h.1 a (by omega)).2, fun f i => (h.2.1 a (by omega) (by omega) f i).1, fun f i => (h.2.1 a (by omega) (by omega) f i).2⟩
/-- one thing made and put into a field of x -/
theorem Xs_of {f v : Nat} (hx : x < w) (hz : ∀ a, w ≤ a → kd S a = 0) (h : ∀ a, a < w → Sm S S1 a) : Fr (fun a => x < a ∧ a < w) S (sR S1 f x 0 (some v)) ∧ (∀ f', gR (sR S1 f x 0 (some v)) f' x 0 = if f' = f then some v else gR S f' x 0) ∧ kd S1 x = kd S x := by
  refine ⟨⟨fun a ha => ?_, fun a ha f' i => ⟨?_, ?_⟩⟩, fun f' => ?_, (h x hx).1⟩
  · have hl : a < w := by
      rcases Nat.lt_or_ge a w with l | l
      · exact l
      · exact absurd (hz a l) ha
    exact ⟨(h a hl).1, (h a hl).2.1⟩
  · rw [gI_sR]
    exact (h a ha.2).2.2.1 f' i
  · rw [gR_sR, if_neg (by omega)]
    exact (h a ha.2).2.2.2 f' i
  · rw [gR_sR]
    by_cases e : f' = f
    · rw [if_pos ⟨e, rfl, rfl⟩, if_pos e]
    · rw [if_neg (fun q => e q.1), if_neg e]
      exact (h x hx).2.2.2 f' 0
theorem Fr_x {f v : Nat} : Fr (fun a => a ≠ x) S (sR S f x 0 (some v)) := Fr_sR (fun q => q rfl)
def q0 (i : Nat) : Nat := if i = 0 then 4 else if i = 1 then 20 else 0
theorem q0_z {i : Nat} (h : 2 ≤ i) : q0 i = 0 := by
  unfold q0
  rw [if_neg (by omega), if_neg (by omega)]
theorem plK_q0 : plK q0 9 = 0 := rfl
/-- what a new object is -/
def CI (S : Hp) (x : Nat) : Prop := CK S x ∧ (sz S = x + 103 ∧ ∀ a, x + 103 ≤ a → kd S a = 0) ∧ gI S 162 (x + 1) 0 = 0 ∧ (∀ j, j < 8 → gI S 134 (x + 55 + 6 * j) 0 = 0) ∧ (gR S 183 x 0 = some (x + 49) ∧ gI S 146 (x + 53) 0 = 0 ∧ gI S 147 (x + 53) 0 = 0) ∧ ((gI S 34 (x + 29) 0 = 0 ∧ gI S 35 (x + 29) 0 = 4 ∧ gI S 36 (x + 29) 0 = 20) ∧ (∀ p, p < 6 → gR S 0 (x + 30) p = some (x + 31)) ∧ kd S (x + 31) = 6) ∧ (kd S (x + 49) = 4 ∧ gI S 50 (x + 49) 0 = 0 ∧ gI S 53 (x + 49) 0 = 0 ∧ gI S 54 (x + 49) 0 = 0) ∧ AR S 49 (x + 49) (x + 50) 23 6 ∧ AR S 51 (x + 49) (x + 51) 20 6 ∧ AR S 52 (x + 49) (x + 52) 22 0
theorem C_init {Q : Hp → Prop} (hk : kd S x = 12) (hs : sz S = x + 1) (hz : ∀ a, x + 1 ≤ a → kd S a = 0) (hQ : ∀ S', CI S' x → Q S') : wp_X11_init x S Q := by
  -- the text
  refine ⟨by omega, by omega, fun n1 e1 S2 e2 => ⟨by omega, by omega, ?_⟩⟩
  obtain rfl : n1 = x + 1 := e1.trans hs
  subst e2
  obtain ⟨u1, u2, u3, u4, u5, u6⟩ := nwf hs hz 11
  refine i_text u1 u2 u3 u4 (fun T1 g1 a1 b1 => ?_)
  obtain ⟨F1, R1, K1⟩ := Xs_of (x := x) (f := 177) (v := x + 1) (by omega) hz (Sm_gw hs hz g1)
  have c1 : kd T1 x = 12 := K1.trans hk
  have k1 : kd T1 (x + 1) = 11 := ((g1.1 (x + 1) (by omega)).1).trans u1
  have s1 : sz T1 = x + 3 := g1.2.2.1.1
  have z1 : ∀ a, x + 3 ≤ a → kd T1 a = 0 := g1.2.2.2
  refine ⟨c1, fun U1 e1 => ?_⟩
  have X1 : Fr (fun a => a ≠ x) T1 U1 := by rw [e1]; exact Fr_x
  rw [← e1] at F1 R1
  have t1 : kd U1 x = 12 ∧ sz U1 = x + 3 ∧ ∀ a, x + 3 ≤ a → kd U1 a = 0 := by rw [e1]; exact ⟨c1, s1, z1⟩
  have d1 := AR_fr X1 (show x + 1 ≠ x by omega) (by decide) a1
  have d1b := gI_fr X1 (show x + 1 ≠ x by omega) b1
  have d1k := kd_fr X1 (by decide) k1
  clear e1 X1 s1 z1 c1 k1 a1 b1 K1 g1 u1 u2 u3 u4 u5 u6
  obtain ⟨c1, s1, z1⟩ := t1
  -- the reader
  refine ⟨by omega, by omega, fun n1 e1 S2 e2 => ?_⟩
  obtain rfl : n1 = x + 3 := e1.trans s1
  subst e2
  obtain ⟨u1, u2, u3, u4, u5, u6⟩ := nwf s1 z1 8
  refine ⟨((u6 x (by omega)).1).trans c1, x + 1, ((u6 x (by omega)).2.2.2 177 0).trans (by rw [R1, if_pos rfl]), by omega, by omega, ?_⟩
  refine i_reader u1 u2 u3 u4 (fun T2 g2 p2 a2 b2 => ?_)
  obtain ⟨F2, R2, K2⟩ := Xs_of (x := x) (f := 178) (v := x + 3) (by omega) z1 (Sm_gw s1 z1 g2)
  have c2 : kd T2 x = 12 := K2.trans c1
  have k2 : kd T2 (x + 3) = 8 := ((g2.1 (x + 3) (by omega)).1).trans u1
  have s2 : sz T2 = x + 29 := g2.2.2.1.1
  have z2 : ∀ a, x + 29 ≤ a → kd T2 a = 0 := g2.2.2.2
  refine ⟨c2, fun U2 e2 => ?_⟩
  have X2 : Fr (fun a => a ≠ x) T2 U2 := by rw [e2]; exact Fr_x
  rw [← e2] at F2 R2
  have t2 : kd U2 x = 12 ∧ sz U2 = x + 29 ∧ ∀ a, x + 29 ≤ a → kd U2 a = 0 := by rw [e2]; exact ⟨c2, s2, z2⟩
  have d2 := AR_fr X2 (show x + 3 ≠ x by omega) (by decide) a2
  have d2p := gR_fr X2 (show x + 3 ≠ x by omega) p2
  have d2k := kd_fr X2 (by decide) k2
  have d2b : ∀ c, c < 24 → gR U2 0 (x + 4) c = some (x + 5 + c) ∧ kd U2 (x + 5 + c) = 1 := fun c hc => ⟨gR_fr X2 (show x + 4 ≠ x by omega) (b2 c hc).1, kd_fr X2 (by decide) (b2 c hc).2⟩
  clear e2 X2 s2 z2 c2 k2 a2 b2 p2 K2 g2 u1 u2 u3 u4 u5 u6
  obtain ⟨c2, s2, z2⟩ := t2
  -- the line
  refine ⟨by omega, by omega, fun n1 e1 S2 e2 => ⟨by omega, by omega, ?_⟩⟩
  obtain rfl : n1 = x + 29 := e1.trans s2
  subst e2
  obtain ⟨u1, u2, u3, u4, u5, u6⟩ := nwf s2 z2 3
  refine i_line u1 u2 u3 u4 (fun T3 g3 h3 => ?_)
  obtain ⟨a3, p3, ⟨i3, j3, l3⟩, b3⟩ := h3
  obtain ⟨F3, R3, K3⟩ := Xs_of (x := x) (f := 179) (v := x + 29) (by omega) z2 (Sm_gw s2 z2 g3)
  have c3 : kd T3 x = 12 := K3.trans c2
  have k3 : kd T3 (x + 29) = 3 := ((g3.1 (x + 29) (by omega)).1).trans u1
  have s3 : sz T3 = x + 33 := g3.2.2.1.1
  have z3 : ∀ a, x + 33 ≤ a → kd T3 a = 0 := g3.2.2.2
  refine ⟨c3, fun U3 e3 => ?_⟩
  have X3 : Fr (fun a => a ≠ x) T3 U3 := by rw [e3]; exact Fr_x
  rw [← e3] at F3 R3
  have t3 : kd U3 x = 12 ∧ sz U3 = x + 33 ∧ ∀ a, x + 33 ≤ a → kd U3 a = 0 := by rw [e3]; exact ⟨c3, s3, z3⟩
  have d3 := AR_fr X3 (show x + 29 ≠ x by omega) (by decide) a3
  have d3p : kd U3 (x + 31) = 6 := kd_fr X3 (by decide) p3
  have d3k := kd_fr X3 (by decide) k3
  have d3i := gI_fr X3 (show x + 29 ≠ x by omega) i3
  have d3j := gI_fr X3 (show x + 29 ≠ x by omega) j3
  have d3l := gI_fr X3 (show x + 29 ≠ x by omega) l3
  have d3b : ∀ p, p < 6 → gR U3 0 (x + 30) p = some (x + 31) := fun p hp => gR_fr X3 (show x + 30 ≠ x by omega) (b3 p hp)
  clear e3 X3 s3 z3 c3 k3 a3 b3 p3 i3 j3 l3 K3 g3 u1 u2 u3 u4 u5 u6
  obtain ⟨c3, s3, z3⟩ := t3
  -- the planner
  refine ⟨by omega, by omega, fun n1 e1 S2 e2 => ⟨by omega, by omega, ?_⟩⟩
  obtain rfl : n1 = x + 33 := e1.trans s3
  subst e2
  obtain ⟨u1, u2, u3, u4, u5, u6⟩ := nwf s3 z3 7
  refine i_planner u1 u2 u3 u4 (fun T4 g4 a4 p4 b4 => ?_)
  obtain ⟨F4, R4, K4⟩ := Xs_of (x := x) (f := 181) (v := x + 33) (by omega) z3 (Sm_gw s3 z3 g4)
  have c4 : kd T4 x = 12 := K4.trans c3
  have k4 : kd T4 (x + 33) = 7 := ((g4.1 (x + 33) (by omega)).1).trans u1
  have s4 : sz T4 = x + 43 := g4.2.2.1.1
  have z4 : ∀ a, x + 43 ≤ a → kd T4 a = 0 := g4.2.2.2
  refine ⟨c4, fun U4 e4 => ?_⟩
  have X4 : Fr (fun a => a ≠ x) T4 U4 := by rw [e4]; exact Fr_x
  rw [← e4] at F4 R4
  have t4 : kd U4 x = 12 ∧ sz U4 = x + 43 ∧ ∀ a, x + 43 ≤ a → kd U4 a = 0 := by rw [e4]; exact ⟨c4, s4, z4⟩
  have d4 := AR_fr X4 (show x + 33 ≠ x by omega) (by decide) a4
  have d4p := AR_fr X4 (show x + 33 ≠ x by omega) (by decide) p4
  have d4k := kd_fr X4 (by decide) k4
  have d4b : ∀ i, i < 7 → gR U4 0 (x + 34) i = some (x + 35 + i) ∧ kd U4 (x + 35 + i) = 20 ∧ ln U4 (x + 35 + i) = 41 := fun i hi => ⟨gR_fr X4 (show x + 34 ≠ x by omega) (b4 i hi).1, kd_fr X4 (by decide) (b4 i hi).2.1, ((X4.1 (x + 35 + i) (by rw [show x + 35 + i = x + 33 + 1 + 1 + i by omega, (b4 i hi).2.1]; decide)).2).trans (b4 i hi).2.2⟩
  clear e4 X4 s4 z4 c4 k4 a4 b4 p4 K4 g4 u1 u2 u3 u4 u5 u6
  obtain ⟨c4, s4, z4⟩ := t4
  -- the curve
  refine ⟨by omega, by omega, fun n1 e1 S2 e2 => ⟨by omega, by omega, ?_⟩⟩
  obtain rfl : n1 = x + 43 := e1.trans s4
  subst e2
  obtain ⟨u1, u2, u3, u4, u5, u6⟩ := nwf s4 z4 2
  refine i_curve u1 u2 u3 u4 (fun T5 g5 a5 b5 m5 n5 p5 => ?_)
  obtain ⟨F5, R5, K5⟩ := Xs_of (x := x) (f := 182) (v := x + 43) (by omega) z4 (Sm_gw s4 z4 g5)
  have c5 : kd T5 x = 12 := K5.trans c4
  have k5 : kd T5 (x + 43) = 2 := ((g5.1 (x + 43) (by omega)).1).trans u1
  have s5 : sz T5 = x + 49 := g5.2.2.1.1
  have z5 : ∀ a, x + 49 ≤ a → kd T5 a = 0 := g5.2.2.2
  refine ⟨c5, fun U5 e5 => ?_⟩
  have X5 : Fr (fun a => a ≠ x) T5 U5 := by rw [e5]; exact Fr_x
  rw [← e5] at F5 R5
  have t5 : kd U5 x = 12 ∧ sz U5 = x + 49 ∧ ∀ a, x + 49 ≤ a → kd U5 a = 0 := by rw [e5]; exact ⟨c5, s5, z5⟩
  have d5a := AR_fr X5 (show x + 43 ≠ x by omega) (by decide) a5
  have d5b := AR_fr X5 (show x + 43 ≠ x by omega) (by decide) b5
  have d5m := AR_fr X5 (show x + 43 ≠ x by omega) (by decide) m5
  have d5n := AR_fr X5 (show x + 43 ≠ x by omega) (by decide) n5
  have d5p := AR_fr X5 (show x + 43 ≠ x by omega) (by decide) p5
  have d5k := kd_fr X5 (by decide) k5
  clear e5 X5 s5 z5 c5 k5 a5 b5 m5 n5 p5 K5 g5 u1 u2 u3 u4 u5 u6
  obtain ⟨c5, s5, z5⟩ := t5
  -- the box
  have G3 : Fr (fun a => x < a ∧ a < x + 33) U3 U5 := Fr_tr F4 (Fr_sub F5 (fun a ha => ⟨ha.1, by omega⟩))
  have r179 : gR U5 179 x 0 = some (x + 29) := by rw [R5, if_neg (by decide), R4, if_neg (by decide), R3, if_pos rfl]
  refine ⟨by omega, by omega, fun n1 e1 S2 e2 => ?_⟩
  obtain rfl : n1 = x + 49 := e1.trans s5
  subst e2
  obtain ⟨u1, u2, u3, u4, u5, u6⟩ := nwf s5 z5 4
  have l0 := u6 (x + 29) (by omega)
  have l1 := u6 (x + 30) (by omega)
  have v0 : kd U5 (x + 29) = 3 := kd_fr G3 (by decide) d3k
  have v1 := AR_fr G3 (show x < x + 29 ∧ x + 29 < x + 33 by omega) (by decide) d3
  have v2 : ∀ p, p < 6 → gR U5 0 (x + 30) p = some (x + 31) := fun p hp => gR_fr G3 (show x < x + 30 ∧ x + 30 < x + 33 by omega) (d3b p hp)
  have v3 : kd U5 (x + 31) = 6 := kd_fr G3 (by decide) d3p
  refine ⟨((u6 x (by omega)).1).trans c5, x + 29, ((u6 x (by omega)).2.2.2 179 0).trans r179, by omega, by omega, ?_⟩
  refine c_packedInit (q := q0) (n := 0) u1 u3 (fun a ha => u4 a (by omega)) (by omega) (l0.1.trans v0) ⟨(l0.2.2.2 33 0).trans v1.1, l1.1.trans v1.2.1, l1.2.1.trans v1.2.2⟩ ⟨fun p hp => ⟨x + 31, (l1.2.2.2 0 p).trans (v2 p hp), by omega, ((u6 (x + 31) (by omega)).1).trans v3⟩, fun p hp => absurd hp (by rw [q0_z (by omega)]; omega)⟩ (by rw [q0_z (by omega)]; omega) (fun p hp => absurd hp (by rw [q0_z (by omega)]; omega)) (by rw [plK_q0]; omega) (by omega) rfl rfl (fun T6 g6 f6 _ s6 z6 => ?_)
  obtain ⟨m6, ⟨h4, h50, h53⟩, h49, h51, -⟩ := g6
  obtain ⟨h54, h52, -⟩ := f6
  obtain ⟨F6, R6, K6⟩ := Xs_of (x := x) (f := 183) (v := x + 49) (by omega) z5 (fun a ha => Sm_t (u6 a ha) (m6 a ha))
  have c6 : kd T6 x = 12 := K6.trans c5
  refine ⟨c6, fun U6 e6 => ?_⟩
  have X6 : Fr (fun a => a ≠ x) T6 U6 := by rw [e6]; exact Fr_x
  rw [← e6] at F6 R6
  have t6 : kd U6 x = 12 ∧ sz U6 = x + 53 ∧ ∀ a, x + 53 ≤ a → kd U6 a = 0 := by
    have s6' : sz T6 = x + 53 := by omega
    rw [e6]
    exact ⟨c6, s6', fun a ha => z6 a (by omega)⟩
  have d6a := AR_fr X6 (show x + 49 ≠ x by omega) (by decide) h49
  have d6b := AR_fr X6 (show x + 49 ≠ x by omega) (by decide) h51
  have d6c := AR_fr X6 (show x + 49 ≠ x by omega) (by decide) h52
  have d6k := kd_fr X6 (by decide) h4
  have d6d : gI U6 50 (x + 49) 0 = 0 := (gI_fr X6 (show x + 49 ≠ x by omega) h50).trans (by rw [q0_z (by omega)]; rfl)
  have d6e : gI U6 53 (x + 49) 0 = 0 := gI_fr X6 (show x + 49 ≠ x by omega) h53
  have d6f : gI U6 54 (x + 49) 0 = 0 := (gI_fr X6 (show x + 49 ≠ x by omega) h54).trans (by rw [plK_q0]; rfl)
  clear e6 X6 s6 z6 c6 h4 h50 h53 h49 h51 h54 h52 K6 m6 u1 u2 u3 u4 u5 u6 l0 l1 v0 v1 v2 v3
  obtain ⟨c6, s6, z6⟩ := t6
  -- the steps
  refine ⟨by omega, by omega, fun n1 e1 S2 e2 => ?_⟩
  obtain rfl : n1 = x + 53 := e1.trans s6
  subst e2
  obtain ⟨u1, u2, u3, u4, u5, u6⟩ := nwf s6 z6 10
  refine ⟨((u6 x (by omega)).1).trans c6, x + 49, ((u6 x (by omega)).2.2.2 183 0).trans (by rw [R6, if_pos rfl]), by omega, by omega, ?_⟩
  refine i_steps u1 u2 u3 u4 (fun T7 g7 a7 p7 b7 => ?_)
  obtain ⟨F7, R7, K7⟩ := Xs_of (x := x) (f := 180) (v := x + 53) (by omega) z6 (Sm_gw s6 z6 g7)
  have c7 : kd T7 x = 12 := K7.trans c6
  have k7 : kd T7 (x + 53) = 10 := ((g7.1 (x + 53) (by omega)).1).trans u1
  have s7 : sz T7 = x + 103 := g7.2.2.1.1
  have z7 : ∀ a, x + 103 ≤ a → kd T7 a = 0 := g7.2.2.2
  have p7a : gI T7 146 (x + 53) 0 = 0 := (p7 146 0).trans (u5 146 0)
  have p7b : gI T7 147 (x + 53) 0 = 0 := (p7 147 0).trans (u5 147 0)
  refine ⟨c7, fun U7 e7 => ?_⟩
  have X7 : Fr (fun a => a ≠ x) T7 U7 := by rw [e7]; exact Fr_x
  rw [← e7] at F7 R7
  have t7 : kd U7 x = 12 ∧ sz U7 = x + 103 ∧ ∀ a, x + 103 ≤ a → kd U7 a = 0 := by rw [e7]; exact ⟨c7, s7, z7⟩
  obtain ⟨c7, s7, z7⟩ := t7
  have H6 : Fr (fun a => x < a ∧ a < x + 53) U6 U7 := F7
  have H5 : Fr (fun a => x < a ∧ a < x + 49) U5 U7 := Fr_tr F6 (Fr_sub H6 (fun a ha => ⟨ha.1, by omega⟩))
  have H4 : Fr (fun a => x < a ∧ a < x + 43) U4 U7 := Fr_tr F5 (Fr_sub H5 (fun a ha => ⟨ha.1, by omega⟩))
  have H3 : Fr (fun a => x < a ∧ a < x + 33) U3 U7 := Fr_tr F4 (Fr_sub H4 (fun a ha => ⟨ha.1, by omega⟩))
  have H2 : Fr (fun a => x < a ∧ a < x + 29) U2 U7 := Fr_tr F3 (Fr_sub H3 (fun a ha => ⟨ha.1, by omega⟩))
  have H1 : Fr (fun a => x < a ∧ a < x + 3) U1 U7 := Fr_tr F2 (Fr_sub H2 (fun a ha => ⟨ha.1, by omega⟩))
  refine hQ U7 ⟨⟨⟨c7, ?_, ?_, ?_, ?_, ?_, ?_⟩, ⟨kd_fr H1 (by decide) d1k, AR_fr H1 (show x < x + 1 ∧ x + 1 < x + 3 by omega) (by decide) d1⟩, ⟨kd_fr H2 (by decide) d2k, gR_fr H2 (show x < x + 3 ∧ x + 3 < x + 29 by omega) d2p, AR_fr H2 (show x < x + 3 ∧ x + 3 < x + 29 by omega) (by decide) d2, fun c hc => ⟨gR_fr H2 (show x < x + 4 ∧ x + 4 < x + 29 by omega) (d2b c hc).1, kd_fr H2 (by decide) (d2b c hc).2⟩⟩, ⟨kd_fr H3 (by decide) d3k, AR_fr H3 (show x < x + 29 ∧ x + 29 < x + 33 by omega) (by decide) d3⟩, ⟨kd_fr H4 (by decide) d4k, AR_fr H4 (show x < x + 33 ∧ x + 33 < x + 43 by omega) (by decide) d4, AR_fr H4 (show x < x + 33 ∧ x + 33 < x + 43 by omega) (by decide) d4p, fun i hi => ⟨gR_fr H4 (show x < x + 34 ∧ x + 34 < x + 43 by omega) (d4b i hi).1, kd_fr H4 (by decide) (d4b i hi).2.1, ((H4.1 (x + 35 + i) (by rw [(d4b i hi).2.1]; decide)).2).trans (d4b i hi).2.2⟩⟩, ⟨kd_fr H5 (by decide) d5k, AR_fr H5 (show x < x + 43 ∧ x + 43 < x + 49 by omega) (by decide) d5a, AR_fr H5 (show x < x + 43 ∧ x + 43 < x + 49 by omega) (by decide) d5b, AR_fr H5 (show x < x + 43 ∧ x + 43 < x + 49 by omega) (by decide) d5m, AR_fr H5 (show x < x + 43 ∧ x + 43 < x + 49 by omega) (by decide) d5n, AR_fr H5 (show x < x + 43 ∧ x + 43 < x + 49 by omega) (by decide) d5p⟩, kd_fr X7 (by decide) k7, AR_fr X7 (show x + 53 ≠ x by omega) (by decide) a7, fun j hj => ?_⟩, ⟨s7, z7⟩, gI_fr H1 (show x < x + 1 ∧ x + 1 < x + 3 by omega) d1b, fun j hj => ?_, ⟨?_, gI_fr X7 (show x + 53 ≠ x by omega) p7a, gI_fr X7 (show x + 53 ≠ x by omega) p7b⟩, ⟨⟨gI_fr H3 (show x < x + 29 ∧ x + 29 < x + 33 by omega) d3i, gI_fr H3 (show x < x + 29 ∧ x + 29 < x + 33 by omega) d3j, gI_fr H3 (show x < x + 29 ∧ x + 29 < x + 33 by omega) d3l⟩, fun p hp => gR_fr H3 (show x < x + 30 ∧ x + 30 < x + 33 by omega) (d3b p hp), kd_fr H3 (by decide) d3p⟩, ⟨kd_fr H6 (by decide) d6k, gI_fr H6 (show x < x + 49 ∧ x + 49 < x + 53 by omega) d6d, gI_fr H6 (show x < x + 49 ∧ x + 49 < x + 53 by omega) d6e, gI_fr H6 (show x < x + 49 ∧ x + 49 < x + 53 by omega) d6f⟩, AR_fr H6 (show x < x + 49 ∧ x + 49 < x + 53 by omega) (by decide) d6a, AR_fr H6 (show x < x + 49 ∧ x + 49 < x + 53 by omega) (by decide) d6b, AR_fr H6 (show x < x + 49 ∧ x + 49 < x + 53 by omega) (by decide) d6c⟩
  · rw [R7, if_neg (by decide), R6, if_neg (by decide), R5, if_neg (by decide), R4, if_neg (by decide), R3, if_neg (by decide), R2, if_neg (by decide), R1, if_pos rfl]
  · rw [R7, if_neg (by decide), R6, if_neg (by decide), R5, if_neg (by decide), R4, if_neg (by decide), R3, if_neg (by decide), R2, if_pos rfl]
  · rw [R7, if_neg (by decide), R6, if_neg (by decide), R5, if_neg (by decide), R4, if_neg (by decide), R3, if_pos rfl]
  · rw [R7, if_pos rfl]
  · rw [R7, if_neg (by decide), R6, if_neg (by decide), R5, if_neg (by decide), R4, if_pos rfl]
  · rw [R7, if_neg (by decide), R6, if_neg (by decide), R5, if_pos rfl]
  · obtain ⟨w1, w2, ⟨w3, w4, w5, w6⟩, -⟩ := b7 j hj
    rw [show x + 53 + 1 + 1 + 6 * j = x + 55 + 6 * j by omega] at w1 w2 w3 w6
    rw [show x + 53 + 1 + 2 + 6 * j = x + 56 + 6 * j by omega] at w3 w4 w5 w6
    rw [show x + 56 + 6 * j + 1 = x + 57 + 6 * j by omega] at w5
    rw [show x + 56 + 6 * j + 4 = x + 60 + 6 * j by omega] at w6
    exact ⟨gR_fr X7 (show x + 54 ≠ x by omega) w1, kd_fr X7 (by decide) w2, gR_fr X7 (show x + 55 + 6 * j ≠ x by omega) w3, kd_fr X7 (by decide) w4, AR_fr X7 (show x + 56 + 6 * j ≠ x by omega) (by decide) w5, AR_fr X7 (show x + 55 + 6 * j ≠ x by omega) (by decide) w6⟩
  · obtain ⟨-, -, -, w7⟩ := b7 j hj
    rw [show x + 53 + 1 + 1 + 6 * j = x + 55 + 6 * j by omega] at w7
    exact gI_fr X7 (show x + 55 + 6 * j ≠ x by omega) w7
  · rw [R7, if_neg (by decide), R6, if_pos rfl]
end INIT3
