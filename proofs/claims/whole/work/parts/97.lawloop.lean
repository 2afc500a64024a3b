/-! ===== the law's loop ===== -/
section LAW
variable {S : Hp} {x : Nat} {σ : Sg}
def GV (σ : Sg) : Prop := V σ.1 ∧ ∀ v, v ∈ σ.2.1 → V v
theorem GV_push {q' : Nat → Nat} (hG : GV σ) (hV : V q') : GV (push σ q') := by
  refine ⟨hV, fun v hv => ?_⟩
  have h1 : v ∈ (σ.1 :: σ.2.1).take 8 := hv
  rcases List.mem_cons.mp (List.mem_of_mem_take h1) with e | e
  · rw [e]
    exact hG.1
  · exact hG.2 v e
theorem okB_tn {w : Int32} {a b : Nat} (h : okB w a b) : a ≤ tn w ∧ tn w ≤ b := by
  unfold tn
  have h1 := h.1
  have h2 := h.2
  omega
theorem okN_tn {w : Int32} {n : Nat} (h : okN w n) : tn w < n := by
  unfold tn
  have h1 := h.1
  have h2 := h.2
  omega
theorem GV_write {w : Int32} (hG : GV σ) : GV (oWrite σ w).2 := by
  unfold oWrite
  split
  · split
    · exact hG
    · exact hG
  · exact hG
theorem GV_erase (hG : GV σ) : GV (oErase σ).2 := hG
theorem GV_packets {w : Int32} (hG : GV σ) : GV (oPackets σ w).2 := by
  unfold oPackets
  split
  · rename_i h
    exact GV_push hG (V_0 hG.1 (okB_tn h).1 (okB_tn h).2)
  · exact hG
theorem GV_room {w : Int32} (hG : GV σ) : GV (oRoom σ w).2 := by
  unfold oRoom
  split
  · rename_i h
    exact GV_push hG (V_1 hG.1 (okB_tn h).1 (okB_tn h).2)
  · exact hG
theorem GV_need {p w : Int32} (hG : GV σ) : GV (oNeed σ p w).2 := by
  unfold oNeed
  split
  · rename_i h1
    split
    · rename_i h
      exact GV_push hG (V_4 hG.1 (okN_tn h1) (okB_tn h).1 (okB_tn h).2)
    · exact hG
  · exact hG
theorem GV_weigh {p w : Int32} (hG : GV σ) : GV (oWeigh σ p w).2 := by
  unfold oWeigh
  split
  · rename_i h1
    split
    · rename_i h
      exact GV_push hG (V_5 hG.1 (okN_tn h1) (okB_tn h).1 (okB_tn h).2)
    · exact hG
  · exact hG
theorem GV_drop {p : Int32} (hG : GV σ) : GV (oDrop σ p).2 := by
  unfold oDrop
  split
  · rename_i h1
    exact GV_push hG (V_drop hG.1 (okN_tn h1))
  · exact hG
theorem GV_lose {p : Int32} (hG : GV σ) : GV (oLose σ p).2 := by
  have h8 := hG.1.2.2.2.2.1.2.1
  unfold oLose
  split
  · rename_i h1
    have := okN_tn h1
    split
    · exact hG
    · exact GV_push hG (V_114 hG.1 (by omega))
  · exact hG
theorem GV_cut {p w : Int32} (hG : GV σ) : GV (oCut σ p w).2 := by
  have h8 := hG.1.2.2.2.2.1.2.1
  unfold oCut
  split
  · rename_i h1
    have := okN_tn h1
    split
    · rename_i h2
      split
      · exact hG
      · exact GV_push hG (V_122 hG.1 (by omega) (okB_tn h2).2)
    · exact hG
  · exact hG
theorem GV_spoil {p i w : Int32} (hG : GV σ) : GV (oSpoil σ p i w).2 := by
  have h8 := hG.1.2.2.2.2.1
  unfold oSpoil
  split
  · rename_i h1
    have a1 := okN_tn h1.1
    have a2 := okN_tn h1.2.1
    have a3 := (hG.1.2.2.2.2.2.2.1 (tn p) (by omega)).2
    split
    · rename_i h2
      exact GV_push hG (V_450 hG.1 (by omega) (by omega) (okB_tn h2).2)
    · exact hG
  · exact hG
theorem GV_again {p : Int32} (hG : GV σ) : GV (oAgain σ p).2 := by
  have h8 := hG.1.2.2.2.2.1.2.1
  unfold oAgain
  split
  · rename_i h1
    have := okN_tn h1
    exact GV_push hG (V_ag hG.1 (by omega))
  · exact hG
theorem GV_undo (hG : GV σ) : GV (oUndo σ).2 := by
  obtain ⟨q, us, tx⟩ := σ
  cases us with
  | nil => exact hG
  | cons u us => exact ⟨hG.2 u List.mem_cons_self, fun v hv => hG.2 v (List.mem_cons_of_mem _ hv)⟩
theorem GV_tell (hG : GV σ) (hV : V (oTell σ).2.1) : GV (oTell σ).2 := by
  refine ⟨hV, fun v hv => ?_⟩
  unfold oTell at hv
  split at hv
  · exact absurd hv (by intro w; cases w)
  · exact hG.2 v hv
theorem law_loop {L : Nat} {xs : Nat → Int32} (hL : L ≤ 2048) {bc bs : Nat} (hS : CS S x σ) (hM : MS S (x + 103) σ) (hG : GV σ) (hbc : 48 * 512 ≤ bc) (hbs : 698 * 512 ≤ bs) : wp_L_law_18 (L, xs) x (x + 103) 0 S bc bs := by
  refine Lp_of (fun n y => ∃ k S' bc' bs' σ', k ≤ 512 ∧ n = 512 - k ∧ y = (nI (4 * k), S', bc', bs') ∧ CS S' x σ' ∧ MS S' (x + 103) σ' ∧ GV σ' ∧ 48 * (512 - k) ≤ bc' ∧ 698 * (512 - k) ≤ bs') (fun n y hy K hK => ?_) (n := 512) (x := (nI 0, S, bc, bs)) ⟨0, S, bc, bs, σ, by omega, rfl, rfl, hS, hM, hG, by omega, by omega⟩
  clear hS hM hG hbc hbs
  obtain ⟨k, S, bc, bs, σ, hk, rfl, rfl, hS, hM, hG, hbc, hbs⟩ := hy
  dsimp only
  refine ⟨fun _ => rfl, fun hc => ?_⟩
  rw [of_nI, li_4, Int32.lt_iff_toInt_lt, pk_sub_toInt (by omega) (by omega), nI_toInt (by omega)] at hc
  have hlt : 4 * k + 4 ≤ L := by omega
  have v0 : vp_in (nI (4 * k)) L := vp_li (by omega) (by omega)
  have v1 : vp_in (nI (4 * k) + (1 : Int32)) L := by rw [nI_1]; exact vp_li (by omega) (by omega)
  have v2 : vp_in (nI (4 * k) + (2 : Int32)) L := by rw [li_2, nI_add]; exact vp_li (by omega) (by omega)
  have v3 : vp_in (nI (4 * k) + (3 : Int32)) L := by rw [li_3, nI_add]; exact vp_li (by omega) (by omega)
  refine ⟨v0, ?_⟩
  rintro e9 -
  have hV := hG.1
  have c12 : kd S x = 12 := hS.1.1.1
  have m13 : kd S (x + 103) = 13 := hM.1.1
  have hl2 : σ.2.2.2 ≤ 200 := hM.2.2.2.1.2.1
  have hT : ∀ i, i < σ.2.2.2 → σ.2.2.1 i ≤ 255 := fun i hi => (hM.2.2.2.1.2.2 i hi).2
  have nxt : ∀ (S' : Hp) (σ' : Sg) (bc' bs' : Nat), CS S' x σ' → MS S' (x + 103) σ' → GV σ' → bc ≤ bc' + 48 → bs ≤ bs' + 698 → wp_L_law_810 (fun w0 w1 w2 w3 => K (w0, w1, w2, w3)) (L, xs) x (x + 103) (nI (4 * k)) S' bc' bs' := by
    intro S' σ' bc' bs' h1 h2 h3 h4 h5
    rintro _ rfl
    refine hK _ (512 - (k + 1)) (by omega) ⟨k + 1, S', bc', bs', σ', by omega, rfl, ?_, h1, h2, h3, by omega, by omega⟩
    rw [li_4, nI_add]
    rfl
  refine ⟨fun _ => ?_, fun _ => ⟨fun _ => ?_, fun _ => ⟨fun _ => ?_, fun _ => ⟨fun _ => ?_, fun _ => ⟨fun _ => ?_, fun _ => ⟨fun _ => ?_, fun _ => ⟨fun _ => ?_, fun _ => ⟨fun _ => ?_, fun _ => ⟨fun _ => ?_, fun _ => ⟨fun _ => ?_, fun _ => ⟨fun _ => ?_, fun _ => ⟨fun _ => ?_, fun _ => ⟨fun _ => ?_, fun _ => ⟨fun _ => ?_, fun _ => ⟨fun _ => ?_, fun _ => ⟨fun _ => ?_, fun _ => ⟨fun _ => ?_, fun _ => ⟨fun _ => ?_, fun _ => ⟨fun _ => ?_, fun _ => ⟨fun _ => ?_, fun _ => ⟨fun _ => ?_, fun _ => ⟨fun _ => ?_, fun _ => ⟨fun _ => ?_, fun _ => ⟨fun _ => ?_, fun _ => ⟨fun _ => ?_, fun _ => ⟨fun _ => ?_, fun _ => ?_⟩⟩⟩⟩⟩⟩⟩⟩⟩⟩⟩⟩⟩⟩⟩⟩⟩⟩⟩⟩⟩⟩⟩⟩⟩⟩
  · -- write
    exact ⟨v1, c12, C_write hS hl2 fun S1 h1 k1 => ⟨v1, (MS_ko k1 hM).1.1, M_write (MS_ko k1 hM) fun S2 h2 o2 => ⟨fun _ => nxt S2 _ _ _ (CS_so o2 h1) h2 (GV_write hG) (by omega) (by omega), fun ne => absurd rfl ne⟩⟩⟩
  · -- erase
    exact ⟨c12, C_erase hS fun S1 h1 k1 => ⟨(MS_ko k1 hM).1.1, M_erase (MS_ko k1 hM) fun S2 h2 o2 => ⟨fun _ => nxt S2 _ _ _ (CS_so o2 h1) h2 (GV_erase hG) (by omega) (by omega), fun ne => absurd rfl ne⟩⟩⟩
  · -- fault
    exact ⟨c12, C_fault hS hV hl2 hT fun S1 h1 k1 => ⟨(MS_ko k1 hM).1.1, M_fault (MS_ko k1 hM) hV fun S2 h2 o2 => ⟨fun _ => nxt S2 _ _ _ (CS_so o2 h1) h2 (hG) (by omega) (by omega), fun ne => absurd rfl ne⟩⟩⟩
  · -- tell
    exact ⟨c12, by omega, by omega, C_tell hS hV hl2 hT fun S1 h1 k1 hv => ⟨(MS_ko k1 hM).1.1, M_tell (MS_ko k1 hM) hV fun S2 h2 o2 => ⟨fun _ => nxt S2 _ _ _ (CS_so o2 h1) h2 (GV_tell hG hv) (by omega) (by omega), fun ne => absurd rfl ne⟩⟩⟩
  · -- part
    exact ⟨v1, v2, c12, C_part hS hV ⟨v1, v2, m13, M_part hM.1 hM.2.1 hV ⟨fun _ => nxt S σ _ _ hS hM hG (by omega) (by omega), fun ne => absurd rfl ne⟩⟩⟩
  · -- letter
    exact ⟨v1, v2, c12, C_letter hS hV ⟨v1, v2, m13, M_letter hM.1 hM.2.1 hV ⟨fun _ => nxt S σ _ _ hS hM hG (by omega) (by omega), fun ne => absurd rfl ne⟩⟩⟩
  · -- packets
    exact ⟨v1, c12, C_packets2 hS hV fun S1 h1 k1 => ⟨v1, (MS_ko k1 hM).1.1, M_packets (MS_ko k1 hM) fun S2 h2 o2 => ⟨fun _ => nxt S2 _ _ _ (CS_so o2 h1) h2 (GV_packets hG) (by omega) (by omega), fun ne => absurd rfl ne⟩⟩⟩
  · -- room
    exact ⟨v1, c12, C_room hS hV fun S1 h1 k1 => ⟨v1, (MS_ko k1 hM).1.1, M_room (MS_ko k1 hM) fun S2 h2 o2 => ⟨fun _ => nxt S2 _ _ _ (CS_so o2 h1) h2 (GV_room hG) (by omega) (by omega), fun ne => absurd rfl ne⟩⟩⟩
  · -- need
    exact ⟨v1, v2, c12, by omega, by omega, C_need hS hV fun S1 h1 k1 => ⟨v1, v2, (MS_ko k1 hM).1.1, M_need (MS_ko k1 hM) hV fun S2 h2 o2 => ⟨fun _ => nxt S2 _ _ _ (CS_so o2 h1) h2 (GV_need hG) (by omega) (by omega), fun ne => absurd rfl ne⟩⟩⟩
  · -- weigh
    exact ⟨v1, v2, c12, by omega, by omega, C_weigh hS hV fun S1 h1 k1 => ⟨v1, v2, (MS_ko k1 hM).1.1, M_weigh (MS_ko k1 hM) hV fun S2 h2 o2 => ⟨fun _ => nxt S2 _ _ _ (CS_so o2 h1) h2 (GV_weigh hG) (by omega) (by omega), fun ne => absurd rfl ne⟩⟩⟩
  · -- drop
    exact ⟨v1, c12, C_drop hS hV fun S1 h1 k1 => ⟨v1, (MS_ko k1 hM).1.1, M_drop (MS_ko k1 hM) hV fun S2 h2 o2 => ⟨fun _ => nxt S2 _ _ _ (CS_so o2 h1) h2 (GV_drop hG) (by omega) (by omega), fun ne => absurd rfl ne⟩⟩⟩
  · -- pack
    exact ⟨c12, by omega, by omega, C_pack hS hV (fun hne hf S1 hall k1 => ⟨(MS_ko k1 hM).1.1, M_pack (MS_ko k1 hM) hV (fun _ _ S2 q' hR h2 o2 => ⟨fun _ => nxt S2 (push σ q') _ _ (CS_so o2 (hall q' hR)) h2 (GV_push hG (V_pack hV hf hR)) (by omega) (by omega), fun ne => absurd rfl ne⟩) (fun hn => absurd ⟨hne, hf⟩ hn)⟩) (fun hn => ⟨m13, M_pack hM hV (fun a b => absurd ⟨a, b⟩ hn) (fun _ => ⟨fun _ => nxt S σ _ _ hS hM hG (by omega) (by omega), fun ne => absurd rfl ne⟩)⟩)⟩
  · -- lose
    exact ⟨v1, c12, C_lose hS hV fun S1 h1 k1 => ⟨v1, (MS_ko k1 hM).1.1, M_lose (MS_ko k1 hM) hV fun S2 h2 o2 => ⟨fun _ => nxt S2 _ _ _ (CS_so o2 h1) h2 (GV_lose hG) (by omega) (by omega), fun ne => absurd rfl ne⟩⟩⟩
  · -- cut
    exact ⟨v1, v2, c12, C_cut hS hV fun S1 h1 k1 => ⟨v1, v2, (MS_ko k1 hM).1.1, M_cut (MS_ko k1 hM) hV fun S2 h2 o2 => ⟨fun _ => nxt S2 _ _ _ (CS_so o2 h1) h2 (GV_cut hG) (by omega) (by omega), fun ne => absurd rfl ne⟩⟩⟩
  · -- spoil
    exact ⟨v1, v2, v3, c12, C_spoil hS hV fun S1 h1 k1 => ⟨v1, v2, v3, (MS_ko k1 hM).1.1, M_spoil (MS_ko k1 hM) hV fun S2 h2 o2 => ⟨fun _ => nxt S2 _ _ _ (CS_so o2 h1) h2 (GV_spoil hG) (by omega) (by omega), fun ne => absurd rfl ne⟩⟩⟩
  · -- again
    exact ⟨v1, c12, C_again hS hV fun S1 h1 k1 => ⟨v1, (MS_ko k1 hM).1.1, M_again (MS_ko k1 hM) hV fun S2 h2 o2 => ⟨fun _ => nxt S2 _ _ _ (CS_so o2 h1) h2 (GV_again hG) (by omega) (by omega), fun ne => absurd rfl ne⟩⟩⟩
  · -- undo
    exact ⟨c12, C_undo hS hG.2 fun S1 h1 k1 => ⟨(MS_ko k1 hM).1.1, M_undo (MS_ko k1 hM) fun S2 h2 o2 => ⟨fun _ => nxt S2 _ _ _ (CS_so o2 h1) h2 (GV_undo hG) (by omega) (by omega), fun ne => absurd rfl ne⟩⟩⟩
  · -- number
    exact ⟨v1, v2, c12, C_number hS hV ⟨v1, v2, m13, M_number hM.1 hM.2.1 hV ⟨fun _ => nxt S σ _ _ hS hM hG (by omega) (by omega), fun ne => absurd rfl ne⟩⟩⟩
  · -- packed
    exact ⟨v1, v2, c12, C_packed hS hV fun S1 h1 k1 => ⟨v1, v2, (MS_ko k1 hM).1.1, M_packed (MS_ko k1 hM) hV fun S2 h2 o2 => ⟨fun _ => nxt S2 _ _ _ (CS_so o2 h1) h2 (hG) (by omega) (by omega), fun ne => absurd rfl ne⟩⟩⟩
  · -- read
    exact ⟨v1, v2, c12, C_read hS hV fun S1 h1 k1 => ⟨v1, v2, (MS_ko k1 hM).1.1, M_read (MS_ko k1 hM) hV fun S2 h2 o2 => ⟨fun _ => nxt S2 _ _ _ (CS_so o2 h1) h2 (hG) (by omega) (by omega), fun ne => absurd rfl ne⟩⟩⟩
  · -- mended
    exact ⟨v1, v2, c12, C_mended hS hV fun S1 h1 k1 => ⟨v1, v2, (MS_ko k1 hM).1.1, M_mended (MS_ko k1 hM) hV fun S2 h2 o2 => ⟨fun _ => nxt S2 _ _ _ (CS_so o2 h1) h2 (hG) (by omega) (by omega), fun ne => absurd rfl ne⟩⟩⟩
  · -- blamed
    exact ⟨v1, c12, C_blamed hS hV fun S1 h1 k1 => ⟨v1, (MS_ko k1 hM).1.1, M_blamed (MS_ko k1 hM) hV fun S2 h2 o2 => ⟨fun _ => nxt S2 _ _ _ (CS_so o2 h1) h2 (hG) (by omega) (by omega), fun ne => absurd rfl ne⟩⟩⟩
  · -- opened
    exact ⟨v1, c12, C_opened hS hV ⟨v1, m13, M_opened hM.1 hM.2.1 hV ⟨fun _ => nxt S σ _ _ hS hM hG (by omega) (by omega), fun ne => absurd rfl ne⟩⟩⟩
  · -- plan
    exact ⟨v1, c12, C_plan hS hV fun S1 h1 k1 => ⟨v1, (MS_ko k1 hM).1.1, M_plan (MS_ko k1 hM) hV fun S2 h2 o2 => ⟨fun _ => nxt S2 _ _ _ (CS_so o2 h1) h2 (hG) (by omega) (by omega), fun ne => absurd rfl ne⟩⟩⟩
  · -- lesser
    exact ⟨v1, c12, C_lesser hS hV ⟨v1, m13, M_lesser hM.1 hM.2.1 hV ⟨fun _ => nxt S σ _ _ hS hM hG (by omega) (by omega), fun ne => absurd rfl ne⟩⟩⟩
  · -- count
    exact ⟨v1, c12, C_count hS hV fun S1 h1 k1 => ⟨v1, (MS_ko k1 hM).1.1, M_count (MS_ko k1 hM) hV fun S2 h2 o2 => ⟨fun _ => nxt S2 _ _ _ (CS_so o2 h1) h2 (hG) (by omega) (by omega), fun ne => absurd rfl ne⟩⟩⟩
  · exact nxt S σ _ _ hS hM hG (by omega) (by omega)
end LAW
