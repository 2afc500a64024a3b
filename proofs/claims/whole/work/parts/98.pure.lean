theorem pure_law (b L : Nat) (xs : Nat → Int32) (hL : L ≤ 2048) : wp_L_law (hp0 b) (L, xs) := by
  refine ⟨by omega, by omega, fun n1 e1 S2 e2 => ⟨by omega, by omega, ?_⟩⟩
  obtain rfl : n1 = b := e1
  subst e2
  obtain ⟨u1, u2, u3, u4, u5, u6⟩ := nwf (S := hp0 n1) (z := n1) rfl (fun _ _ => rfl) 12
  refine C_init u1 u3 (fun a ha => u4 a (by omega)) (fun S4 h4 => ⟨by omega, by omega, fun n5 e5 S6 e6 => ?_⟩)
  obtain ⟨t1, t2⟩ := h4.2.1
  obtain rfl : n5 = n1 + 103 := e5.trans t1
  subst e6
  obtain ⟨v1, v2, v3, v4, v5, v6⟩ := nwf t1 t2 13
  refine ⟨by omega, by omega, M_init v1 v3 (fun a ha => v4 a (by omega)) v5 (fun S8 g8 h8 => ?_)⟩
  have hS : CS S8 n1 (q0, [], fun _ => 0, 0) := CS_ci h4 (fun a ha => Sm_t (v6 a ha) ⟨(g8.1 a (by omega)).1, (g8.1 a (by omega)).2, fun f i => (g8.2.1 a (by omega) (by omega) f i).1, fun f i => (g8.2.1 a (by omega) (by omega) f i).2⟩) ⟨fun a ha => g8.2.2.2 a (by have := g8.2.2.1.1; omega), by have := g8.2.2.1.1; omega⟩
  exact law_loop hL hS h8 ⟨V_q0, fun v hv => absurd hv (by intro q; cases q)⟩ (by omega) (by omega)
