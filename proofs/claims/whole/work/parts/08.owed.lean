/-! what is owed -/
theorem i_up {k : Nat} {u : SX} {v : SY} (h : i_Rel k u v) : i_Rel (k + 5) u v := h
theorem i_vc0 : wpX_init (fun u => wpY_init (fun v => i_Rel 0 u v)) := by
  refine loop_0 (fun n i nxt => wX_init_108 (fun u => wpY_init (fun v => i_Rel 0 u v)) 0 0 0 0 0 n (nI i) (fun _ => 0) (fun _ => 0) (fun _ => 0) (fun _ => 0) nxt (fun _ => 0) (fun _ => 0) (fun _ => 0) (fun _ => 0) (fun _ => 0) (fun _ => 0) (fun _ => 0) (fun _ => 0)) (fun i nxt => ∀ r, r < i → nxt r = nI (6 + r)) 6 (fun _ => 0) (fun j hj => absurd hj (Nat.not_lt_zero j)) ?_ ?_
  · intro n nxt hx
    refine br_t (by decide) ?_
    refine loop_0 (fun n i wrs => wY_init_39 (fun v => i_Rel 0 (0, 0, 0, 0, 0, (fun _ => 0), (fun _ => 0), (fun _ => 0), (fun _ => 0), nxt, (fun _ => 0), (fun _ => 0), (fun _ => 0), (fun _ => 0), (fun _ => 0), (fun _ => 0), (fun _ => 0), (fun _ => 0)) v) 0 0 0 0 0 n (nI i) (fun _ => 0) wrs (fun _ => 0) (fun _ => 0)) (fun i wrs => (∀ r, r < i → wrs r = nI (6 + r)) ∧ ∀ j, 6 ≤ j → wrs j = 0) 6 (fun _ => 0) ⟨fun j hj => absurd hj (Nat.not_lt_zero j), fun _ _ => rfl⟩ ?_ ?_
    · rintro n wrs ⟨h1, h2⟩
      refine br_t (by decide) ⟨rfl, rfl, ?_, Or.inl rfl⟩
      refine ⟨0, fun _ => 0, fun _ => 0, fun _ => 0, fun _ => 0, fun j => if j < 6 then 6 + j else 0, rfl, rfl, ⟨by omega, fun g hg => absurd hg (Nat.not_lt_zero g), fun j hj => ?_⟩, ⟨fun g hg => absurd hg (Nat.not_lt_zero g), fun r hr => ?_, fun o ho => ?_⟩, ⟨fun g hg => absurd hg (Nat.not_lt_zero g), fun j hj => ?_⟩⟩
      · dsimp only
        split <;> omega
      · dsimp only
        rw [hx r hr, if_pos hr]
      · dsimp only
        rw [if_neg (by omega)]
        rfl
      · dsimp only
        rw [Nat.zero_add]
        by_cases h6 : j < 6
        · rw [h1 j h6, if_pos h6]
        · rw [h2 j (by omega), if_neg h6]
          rfl
    · rintro n i wrs hi ⟨h1, h2⟩ k
      refine br_f (nI_ge (b := 6) hi (by decide)) ⟨vp_in_nI (by omega) (by decide), nm_e (nm_r (nI_1 i) (k _ ?_))⟩
      rw [nI_clamp (show i < 2 ^ 31 by omega), cf_6]
      refine ⟨fun r hr => ?_, fun j hj => ?_⟩
      · by_cases e : r = i
        · subst e
          exact pk_us
        · rw [pk_un e]
          exact h1 r (by omega)
      · rw [pk_un (by omega)]
        exact h2 j hj
  · intro n i nxt hi hx k
    refine br_f (nI_ge (b := 6) hi (by decide)) ⟨vp_in_nI (by omega) (by decide), nm_e (nm_r (nI_1 i) (k _ ?_))⟩
    rw [nI_clamp (show i < 2 ^ 31 by omega), cf_6]
    intro r hr
    by_cases e : r = i
    · subst e
      exact pk_us
    · rw [pk_un e]
      exact hx r (by omega)
theorem i_vc_gate {k : Nat} {u : SX} {v : SY} (I : i_Rel k u v) (hk : k + 5 ≤ 2560) (v1 : Int32) (v2 : Int32) (v3 : Int32) (v4 : Int32) : wpX_gate (fun r u' => wpY_gate (fun r' v' => r' = r ∧ i_Rel (k + 5) u' v') v v1 v2 v3 v4) u v1 v2 v3 v4 := by
  obtain ⟨f_gates, f_hasDevice, f_cells, f_inputLevels, f_registerLevels, a_kindOfGate, a_firstOfGate, a_secondOfGate, a_thirdOfGate, a_nextOfRegister, a_shownByOutput, a_placeOfSignal, a_tableOfCell, a_firstWireOfCell, a_secondWireOfCell, a_thirdWireOfCell, a_wireOfRegister, a_wireOfOutput⟩ := u
  obtain ⟨f_size, f_builtSize, f_isBuilt, f_given, f_state, a_gates, a_wires, a_values, a_seen⟩ := v
  have J := i_up I
  obtain ⟨hg, hb, ⟨n, K, A, B, C, w, rfl, rfl, hC, hX, hY⟩, hE⟩ := I
  have hn := hC.1
  by_cases h0 : v1 < 0
  · exact br_t h0 (br_t h0 ⟨rfl, J⟩)
  by_cases h9 : 9 < v1
  · exact br_f h0 (br_t h9 (br_f h0 (br_t h9 ⟨rfl, J⟩)))
  by_cases s2 : cf_sg n v2
  case neg => exact br_f h0 (br_f h9 (cf_isX0 hn s2 (br_t rfl (br_f h0 (br_f h9 (cf_isY0 hn s2 (br_t rfl ⟨rfl, J⟩)))))))
  by_cases s3 : cf_sg n v3
  case neg => exact br_f h0 (br_f h9 (cf_isX1 hn s2 (br_f cf_10n (cf_isX0 hn s3 (br_t rfl (br_f h0 (br_f h9 (cf_isY1 hn s2 (br_f cf_10n (cf_isY0 hn s3 (br_t rfl ⟨rfl, J⟩)))))))))))
  obtain ⟨q, hq, rfl⟩ := nI_of2 (x := v1) (M := 9) (n := 9) (by decide) h0 (Int32.not_lt.mp h9)
  have s2' := s2
  have s3' := s3
  obtain ⟨a, ha, rfl⟩ := s2
  obtain ⟨b, hb2, rfl⟩ := s3
  by_cases h7 : nI q < 7
  · have h7q : q < 7 := (nI_ltI (b := 7) (by omega) (by decide)).mp h7
    by_cases hf : n < 20
    · refine br_f h0 (br_f h9 (cf_isX1 hn s2' (br_f cf_10n (cf_isX1 hn s3' (br_f cf_10n (br_t h7 (br_t rfl (cf_gtX hf _ _ _ _ _ _ (Or.inl ⟨rfl, rfl⟩) ?_))))))))
      refine br_f h0 (br_f h9 (cf_isY1 hn s2' (br_f cf_10n (cf_isY1 hn s3' (br_f cf_10n (br_t h7 (cf_gtY hf _ _ _ _ _ (Or.inl ⟨h7, rfl⟩) ⟨rfl, hg, hb, ?_, cf_DeC (cf_addE hf _ _ _ _ _) (fun _ _ => rfl) hE⟩)))))))
      have R := cf_add hC hX hY hf (q := q) (a := a) (b := b) (c := 0) (by omega) ha hb2 (by omega)
      rw [if_pos h7q] at R
      exact R
    · exact br_f h0 (br_f h9 (cf_isX1 hn s2' (br_f cf_10n (cf_isX1 hn s3' (br_f cf_10n (br_t h7 (br_t rfl (cf_gtX2 hf hn _ _ _ _ _ (br_f h0 (br_f h9 (cf_isY1 hn s2' (br_f cf_10n (cf_isY1 hn s3' (br_f cf_10n (br_t h7 (cf_gtY2 hf hn _ _ _ _ ⟨rfl, J⟩))))))))))))))))
  · have h7q : ¬ q < 7 := fun z => h7 (nI_lt (b := 7) z (by decide))
    by_cases s4 : cf_sg n v4
    · have s4' := s4
      obtain ⟨c, hc, rfl⟩ := s4
      by_cases hf : n < 20
      · refine br_f h0 (br_f h9 (cf_isX1 hn s2' (br_f cf_10n (cf_isX1 hn s3' (br_f cf_10n (br_f h7 (br_f cf_10n (cf_isX1 hn s4' (br_f cf_10n (cf_gtX hf _ _ _ _ _ _ (Or.inr ⟨cf_10n, rfl⟩) ?_))))))))))
        refine br_f h0 (br_f h9 (cf_isY1 hn s2' (br_f cf_10n (cf_isY1 hn s3' (br_f cf_10n (br_f h7 (cf_isY1 hn s4' (br_f cf_10n (cf_gtY hf _ _ _ _ _ (Or.inr ⟨h7, rfl⟩) ⟨rfl, hg, hb, ?_, cf_DeC (cf_addE hf _ _ _ _ _) (fun _ _ => rfl) hE⟩)))))))))
        have R := cf_add hC hX hY hf (q := q) (a := a) (b := b) (c := c) (by omega) ha hb2 hc
        rw [if_neg h7q] at R
        exact R
      · exact br_f h0 (br_f h9 (cf_isX1 hn s2' (br_f cf_10n (cf_isX1 hn s3' (br_f cf_10n (br_f h7 (br_f cf_10n (cf_isX1 hn s4' (br_f cf_10n (cf_gtX2 hf hn _ _ _ _ _ (br_f h0 (br_f h9 (cf_isY1 hn s2' (br_f cf_10n (cf_isY1 hn s3' (br_f cf_10n (br_f h7 (cf_isY1 hn s4' (br_f cf_10n (cf_gtY2 hf hn _ _ _ _ ⟨rfl, J⟩))))))))))))))))))))
    · exact br_f h0 (br_f h9 (cf_isX1 hn s2' (br_f cf_10n (cf_isX1 hn s3' (br_f cf_10n (br_f h7 (br_f cf_10n (cf_isX0 hn s4 (br_t rfl (br_f h0 (br_f h9 (cf_isY1 hn s2' (br_f cf_10n (cf_isY1 hn s3' (br_f cf_10n (br_f h7 (cf_isY0 hn s4 (br_t rfl ⟨rfl, J⟩))))))))))))))))))
theorem i_vc_drop {k : Nat} {u : SX} {v : SY} (I : i_Rel k u v) (hk : k + 5 ≤ 2560) : wpX_drop (fun r u' => wpY_drop (fun r' v' => r' = r ∧ i_Rel (k + 5) u' v') v) u := by
  obtain ⟨f_gates, f_hasDevice, f_cells, f_inputLevels, f_registerLevels, a_kindOfGate, a_firstOfGate, a_secondOfGate, a_thirdOfGate, a_nextOfRegister, a_shownByOutput, a_placeOfSignal, a_tableOfCell, a_firstWireOfCell, a_secondWireOfCell, a_thirdWireOfCell, a_wireOfRegister, a_wireOfOutput⟩ := u
  obtain ⟨f_size, f_builtSize, f_isBuilt, f_given, f_state, a_gates, a_wires, a_values, a_seen⟩ := v
  have J := i_up I
  obtain ⟨hg, hb, ⟨n, K, A, B, C, w, rfl, rfl, hC, hX, hY⟩, hE⟩ := I
  have hn := hC.1
  cases n with
  | zero => exact br_f (by decide) (br_t (by decide) ⟨rfl, J⟩)
  | succ n =>
    have hw : ∀ j, j < 10 → w j < 32 := fun j hj => by have := hC.2.2 j hj; omega
    refine br_t (nI_lt (a := 0) (by omega) (by omega)) (nm_r (nI_pred n) ?_)
    rw [cf_12]
    refine cf_fgX (by omega) hw hX.2.1 hX.2.2 ?_
    intro nxt shn h1 h2
    dsimp only
    refine br_f (nI_ne0 (by omega) (by omega)) (nm_r (nI_pred n) (cf_drY (by omega) hw (fun j hj => ?_) ?_))
    · have := hY.2 j hj
      rw [Nat.zero_add] at this
      exact this
    · intro wrs h3 h4
      refine ⟨(cf_12 n).symm, hg, hb, ⟨n, K, A, B, C, cf_dw (12 + n) w, rfl, rfl, cf_dwC hC, ⟨fun g hg => hX.1 g (by omega), h1, h2⟩, ⟨fun g hg => hY.1 g (by omega), fun j hj => ?_⟩⟩, cf_DeC (fun _ _ => rfl) h4 hE⟩
      rw [Nat.zero_add]
      exact h3 j hj
theorem i_vc_signals {k : Nat} {u : SX} {v : SY} (I : i_Rel k u v) (hk : k + 5 ≤ 2560) : wpX_signals (fun r => wpY_signals (fun r' => r' = r ∧ i_Rel (k + 5) u v) v) u := by
  obtain ⟨f_gates, f_hasDevice, f_cells, f_inputLevels, f_registerLevels, a_kindOfGate, a_firstOfGate, a_secondOfGate, a_thirdOfGate, a_nextOfRegister, a_shownByOutput, a_placeOfSignal, a_tableOfCell, a_firstWireOfCell, a_secondWireOfCell, a_thirdWireOfCell, a_wireOfRegister, a_wireOfOutput⟩ := u
  obtain ⟨f_size, f_builtSize, f_isBuilt, f_given, f_state, a_gates, a_wires, a_values, a_seen⟩ := v
  have J := i_up I
  obtain ⟨hg, hb, ⟨n, K, A, B, C, w, rfl, rfl, hC, hX, hY⟩, hE⟩ := I
  exact ⟨rfl, J⟩
theorem i_vc_next {k : Nat} {u : SX} {v : SY} (I : i_Rel k u v) (hk : k + 5 ≤ 2560) (v1 : Int32) (v2 : Int32) : wpX_next (fun r u' => wpY_next (fun r' v' => r' = r ∧ i_Rel (k + 5) u' v') v v1 v2) u v1 v2 := by
  obtain ⟨f_gates, f_hasDevice, f_cells, f_inputLevels, f_registerLevels, a_kindOfGate, a_firstOfGate, a_secondOfGate, a_thirdOfGate, a_nextOfRegister, a_shownByOutput, a_placeOfSignal, a_tableOfCell, a_firstWireOfCell, a_secondWireOfCell, a_thirdWireOfCell, a_wireOfRegister, a_wireOfOutput⟩ := u
  obtain ⟨f_size, f_builtSize, f_isBuilt, f_given, f_state, a_gates, a_wires, a_values, a_seen⟩ := v
  have J := i_up I
  obtain ⟨hg, hb, ⟨n, K, A, B, C, w, rfl, rfl, hC, hX, hY⟩, hE⟩ := I
  have hn := hC.1
  unfold wpX_next
  dsimp only
  rcases pk_ix v1 (n := 6) (by decide) with h | h | ⟨j, hj, rfl⟩
  · exact cf_rgX0 (Or.inl h) (br_t rfl (br_t h ⟨rfl, J⟩))
  · exact cf_rgX0 (Or.inr h) (br_t rfl (br_f (cf_l6 h).1 (br_t (cf_l6 h).2 ⟨rfl, J⟩)))
  · have y0 : ¬ nI j < 0 := nI_pos (by omega)
    have y5 : ¬ 5 < nI j := nI_nlt (a := 5) (by omega) (by decide)
    by_cases s2 : cf_sg n v2
    · have s2' := s2
      obtain ⟨s, hs, rfl⟩ := s2
      have ec : (nI j).toNatClampNeg = j := nI_clamp (by omega)
      refine cf_rgX1 hj (br_f cf_10n (cf_isX1 hn s2' (br_f cf_10n ⟨vp_in_nI hj (by decide), nm_e (br_f y0 (br_f y5 (cf_isY1 hn s2' (br_f cf_10n ⟨vp_in_nI (by omega) (by decide), nm_e ⟨rfl, hg, hb, ?_, ?_⟩⟩))))⟩)))
      · rw [ec]
        refine ⟨n, K, A, B, C, fun i => if i = j then s else w i, rfl, rfl, cf_wire hC hs, ⟨hX.1, fun r hr => ?_, fun o ho => ?_⟩, cf_wires hY⟩
        · dsimp only
          by_cases e : r = j
          · rw [if_pos e, e, pk_us]
          · rw [if_neg e, pk_un e]
            exact hX.2.1 r hr
        · dsimp only
          rw [if_neg (by omega)]
          exact hX.2.2 o ho
      · rw [ec]
        exact cf_DeC (fun _ _ => rfl) (cf_wireE (by omega) _ _) hE
    · exact cf_rgX1 hj (br_f cf_10n (cf_isX0 hn s2 (br_t rfl (br_f y0 (br_f y5 (cf_isY0 hn s2 (br_t rfl ⟨rfl, J⟩)))))))
theorem i_vc_show {k : Nat} {u : SX} {v : SY} (I : i_Rel k u v) (hk : k + 5 ≤ 2560) (v1 : Int32) (v2 : Int32) : wpX_show (fun r u' => wpY_show (fun r' v' => r' = r ∧ i_Rel (k + 5) u' v') v v1 v2) u v1 v2 := by
  obtain ⟨f_gates, f_hasDevice, f_cells, f_inputLevels, f_registerLevels, a_kindOfGate, a_firstOfGate, a_secondOfGate, a_thirdOfGate, a_nextOfRegister, a_shownByOutput, a_placeOfSignal, a_tableOfCell, a_firstWireOfCell, a_secondWireOfCell, a_thirdWireOfCell, a_wireOfRegister, a_wireOfOutput⟩ := u
  obtain ⟨f_size, f_builtSize, f_isBuilt, f_given, f_state, a_gates, a_wires, a_values, a_seen⟩ := v
  have J := i_up I
  obtain ⟨hg, hb, ⟨n, K, A, B, C, w, rfl, rfl, hC, hX, hY⟩, hE⟩ := I
  have hn := hC.1
  rcases pk_ix v1 (n := 4) (by decide) with h | h | ⟨j, hj, rfl⟩
  · exact br_t h (br_t h ⟨rfl, J⟩)
  · exact br_f (cf_l4 h).1 (br_t h (br_f (cf_l4 h).1 (br_t (cf_l4 h).2 ⟨rfl, J⟩)))
  · have y0 : ¬ nI j < 0 := nI_pos (by omega)
    have y3 : ¬ 3 < nI j := nI_nlt (a := 3) (by omega) (by decide)
    have y4 : ¬ 4 ≤ nI j := nI_ge (b := 4) hj (by decide)
    by_cases s2 : cf_sg n v2
    · have s2' := s2
      obtain ⟨s, hs, rfl⟩ := s2
      have ec : (nI j).toNatClampNeg = j := nI_clamp (by omega)
      have e6 : (6 + nI j).toNatClampNeg = 6 + j := pk_cl (6 + j) (cf_6 j) (by omega)
      refine br_f y0 (br_f y4 (cf_isX1 hn s2' (br_f cf_10n ⟨vp_in_nI hj (by decide), nm_e (br_f y0 (br_f y3 (cf_isY1 hn s2' (br_f cf_10n ⟨cf_in (cf_6 j) (by omega) (by decide), nm_e ⟨rfl, hg, hb, ?_, ?_⟩⟩))))⟩)))
      · rw [ec, e6]
        refine ⟨n, K, A, B, C, fun i => if i = 6 + j then s else w i, rfl, rfl, cf_wire hC hs, ⟨hX.1, fun r hr => ?_, fun o ho => ?_⟩, cf_wires hY⟩
        · dsimp only
          rw [if_neg (by omega)]
          exact hX.2.1 r hr
        · dsimp only
          by_cases e : o = j
          · rw [if_pos (by omega), e, pk_us]
          · rw [if_neg (by omega), pk_un e]
            exact hX.2.2 o ho
      · rw [e6]
        exact cf_DeC (fun _ _ => rfl) (cf_wireE (by omega) _ _) hE
    · exact br_f y0 (br_f y4 (cf_isX0 hn s2 (br_t rfl (br_f y0 (br_f y3 (cf_isY0 hn s2 (br_t rfl ⟨rfl, J⟩)))))))
theorem i_vc_build {k : Nat} {u : SX} {v : SY} (I : i_Rel k u v) (hk : k + 5 ≤ 2560) (v1 : Int32) : wpX_build (fun r u' => wpY_build (fun r' v' => r' = r ∧ i_Rel (k + 5) u' v') v v1) u v1 := by
  obtain ⟨f_gates, f_hasDevice, f_cells, f_inputLevels, f_registerLevels, a_kindOfGate, a_firstOfGate, a_secondOfGate, a_thirdOfGate, a_nextOfRegister, a_shownByOutput, a_placeOfSignal, a_tableOfCell, a_firstWireOfCell, a_secondWireOfCell, a_thirdWireOfCell, a_wireOfRegister, a_wireOfOutput⟩ := u
  obtain ⟨f_size, f_builtSize, f_isBuilt, f_given, f_state, a_gates, a_wires, a_values, a_seen⟩ := v
  have J := i_up I
  obtain ⟨hg, hb, ⟨n, K, A, B, C, w, rfl, rfl, hC, hX, hY⟩, hE⟩ := I
  by_cases h0 : v1 < 0
  · exact br_t h0 (br_t h0 ⟨rfl, J⟩)
  by_cases h9 : v1 ≤ 1000
  · obtain ⟨c, hc, rfl⟩ := nI_of2 (x := v1) (M := 1000) (n := 1000) (by decide) h0 h9
    refine cf_buX hc hC hX ?_
    intro plc tab w1 w2 w3 wr wo hD
    refine cf_buY hc hC.1 hY ?_
    intro gts wrs hY1 hY2
    exact ⟨rfl, hg, rfl, ⟨n, K, A, B, C, w, rfl, rfl, hC, hX, hY1⟩, Or.inr ⟨rfl, n, K, A, B, C, w, cf_pl c, 0, rfl, rfl, rfl, rfl, by decide, hC, hD, hY2⟩⟩
  · exact br_f h0 (br_f h9 (br_f h0 (br_f h9 ⟨rfl, J⟩)))
theorem i_vc_built {k : Nat} {u : SX} {v : SY} (I : i_Rel k u v) (hk : k + 5 ≤ 2560) : wpX_built (fun r => wpY_built (fun r' => r' = r ∧ i_Rel (k + 5) u v) v) u := by
  obtain ⟨f_gates, f_hasDevice, f_cells, f_inputLevels, f_registerLevels, a_kindOfGate, a_firstOfGate, a_secondOfGate, a_thirdOfGate, a_nextOfRegister, a_shownByOutput, a_placeOfSignal, a_tableOfCell, a_firstWireOfCell, a_secondWireOfCell, a_thirdWireOfCell, a_wireOfRegister, a_wireOfOutput⟩ := u
  obtain ⟨f_size, f_builtSize, f_isBuilt, f_given, f_state, a_gates, a_wires, a_values, a_seen⟩ := v
  have J := i_up I
  obtain ⟨hg, hb, hCi, hE⟩ := I
  have hE' := hE
  rcases hE' with h | ⟨h, -⟩
  · subst h
    subst hb
    exact ⟨by decide, by decide, rfl, J⟩
  · subst h
    subst hb
    exact ⟨by decide, by decide, rfl, J⟩
theorem i_vc_set {k : Nat} {u : SX} {v : SY} (I : i_Rel k u v) (hk : k + 5 ≤ 2560) (v1 : Int32) (v2 : Int32) : wpX_set (fun r u' => wpY_set (fun r' v' => r' = r ∧ i_Rel (k + 5) u' v') v v1 v2) u v1 v2 := by
  obtain ⟨f_gates, f_hasDevice, f_cells, f_inputLevels, f_registerLevels, a_kindOfGate, a_firstOfGate, a_secondOfGate, a_thirdOfGate, a_nextOfRegister, a_shownByOutput, a_placeOfSignal, a_tableOfCell, a_firstWireOfCell, a_secondWireOfCell, a_thirdWireOfCell, a_wireOfRegister, a_wireOfOutput⟩ := u
  obtain ⟨f_size, f_builtSize, f_isBuilt, f_given, f_state, a_gates, a_wires, a_values, a_seen⟩ := v
  have J := i_up I
  obtain ⟨hg, hb, hCi, hE⟩ := I
  have hg' : f_given = f_inputLevels := hg
  rcases pk_ix v1 (n := 6) (by decide) with h | h | ⟨j, hj, rfl⟩
  · exact br_t h (br_t h ⟨rfl, J⟩)
  · exact br_f (cf_l6 h).1 (br_t h (br_f (cf_l6 h).1 (br_t (cf_l6 h).2 ⟨rfl, J⟩)))
  · have y0 : ¬ nI j < 0 := nI_pos (by omega)
    have y5 : ¬ 5 < nI j := nI_nlt (a := 5) (by omega) (by decide)
    have y6 : ¬ 6 ≤ nI j := nI_ge (b := 6) hj (by decide)
    by_cases hv : v2 = 0 ∨ v2 = 1
    · refine br_f y0 (br_f y6 (cf_lvX1 hv (br_f cf_10n (cf_wbX (br_f y0 (br_f y5 (br_f (cf_levOk hv).1 (br_t (cf_levOk hv).2 (nm_e ⟨rfl, ?_, hb, hCi, hE⟩)))))))))
      rw [hg']
    · have v0 : ¬ v2 = 0 := fun z => hv (Or.inl z)
      have w1 : ¬ v2 = 1 := fun z => hv (Or.inr z)
      refine br_f y0 (br_f y6 (cf_lvX0 v0 w1 (br_t rfl (br_f y0 (br_f y5 ?_)))))
      rcases cf_lev v0 w1 with h | ⟨h, h'⟩
      · exact br_t h ⟨rfl, J⟩
      · exact br_f h (br_f h' ⟨rfl, J⟩)
theorem i_vc_inputs {k : Nat} {u : SX} {v : SY} (I : i_Rel k u v) (hk : k + 5 ≤ 2560) : wpX_inputs (fun r => wpY_inputs (fun r' => r' = r ∧ i_Rel (k + 5) u v) v) u := by
  obtain ⟨f_gates, f_hasDevice, f_cells, f_inputLevels, f_registerLevels, a_kindOfGate, a_firstOfGate, a_secondOfGate, a_thirdOfGate, a_nextOfRegister, a_shownByOutput, a_placeOfSignal, a_tableOfCell, a_firstWireOfCell, a_secondWireOfCell, a_thirdWireOfCell, a_wireOfRegister, a_wireOfOutput⟩ := u
  obtain ⟨f_size, f_builtSize, f_isBuilt, f_given, f_state, a_gates, a_wires, a_values, a_seen⟩ := v
  have J := i_up I
  obtain ⟨hg, hb, hCi, hE⟩ := I
  exact ⟨hg, J⟩
theorem i_vc_clock {k : Nat} {u : SX} {v : SY} (I : i_Rel k u v) (hk : k + 5 ≤ 2560) (v1 : Int32) : wpX_clock (fun r u' => wpY_clock (fun r' v' => r' = r ∧ i_Rel (k + 5) u' v') v v1) u v1 := by
  obtain ⟨f_gates, f_hasDevice, f_cells, f_inputLevels, f_registerLevels, a_kindOfGate, a_firstOfGate, a_secondOfGate, a_thirdOfGate, a_nextOfRegister, a_shownByOutput, a_placeOfSignal, a_tableOfCell, a_firstWireOfCell, a_secondWireOfCell, a_thirdWireOfCell, a_wireOfRegister, a_wireOfOutput⟩ := u
  obtain ⟨f_size, f_builtSize, f_isBuilt, f_given, f_state, a_gates, a_wires, a_values, a_seen⟩ := v
  have J := i_up I
  obtain ⟨hg, hb, hCi, hE⟩ := I
  have hg' : f_given = f_inputLevels := hg
  have hb' : f_isBuilt = f_hasDevice := hb
  subst hg'
  subst hb'
  rcases hE with h0 | ⟨h1, m, K, A, B, C, w, P, R, rfl, rfl, rfl, rfl, hR, hC, hD, hY⟩
  · exact br_t h0 (br_t h0 ⟨rfl, J⟩)
  have hd : ¬ f_isBuilt = 0 := by
    rw [show f_isBuilt = 1 from h1]
    decide
  by_cases n0 : v1 < 0
  · exact br_f hd (br_t n0 (br_f hd (br_t n0 ⟨rfl, J⟩)))
  by_cases n9 : v1 ≤ 20
  · obtain ⟨c, hc, rfl⟩ := nI_of2 (x := v1) (M := 20) (n := 20) (by decide) n0 n9
    refine cf_ckX hd hC hD R c hc (cf_ckY hd hC hY R c hc ?_)
    intro val
    exact ⟨rfl, rfl, rfl, hCi, Or.inr ⟨h1, m, K, A, B, C, w, P, _, rfl, rfl, rfl, rfl, cf_it64 (cf_st64 _ _ _ _ _ _) hR c, hC, hD, hY⟩⟩
  · exact br_f hd (br_f n0 (br_f n9 (br_f hd (br_f n0 (br_f n9 ⟨rfl, J⟩)))))
theorem i_vc_registers {k : Nat} {u : SX} {v : SY} (I : i_Rel k u v) (hk : k + 5 ≤ 2560) : wpX_registers (fun r => wpY_registers (fun r' => r' = r ∧ i_Rel (k + 5) u v) v) u := by
  obtain ⟨f_gates, f_hasDevice, f_cells, f_inputLevels, f_registerLevels, a_kindOfGate, a_firstOfGate, a_secondOfGate, a_thirdOfGate, a_nextOfRegister, a_shownByOutput, a_placeOfSignal, a_tableOfCell, a_firstWireOfCell, a_secondWireOfCell, a_thirdWireOfCell, a_wireOfRegister, a_wireOfOutput⟩ := u
  obtain ⟨f_size, f_builtSize, f_isBuilt, f_given, f_state, a_gates, a_wires, a_values, a_seen⟩ := v
  have J := i_up I
  obtain ⟨hg, hb, hCi, hE⟩ := I
  have hg' : f_given = f_inputLevels := hg
  have hb' : f_isBuilt = f_hasDevice := hb
  subst hg'
  subst hb'
  rcases hE with h0 | ⟨h1, m, K, A, B, C, w, P, R, rfl, rfl, rfl, rfl, hR, hC, hD, hY⟩
  · exact br_t h0 (br_t h0 ⟨rfl, J⟩)
  have hd : ¬ f_isBuilt = 0 := by
    rw [show f_isBuilt = 1 from h1]
    decide
  exact br_f hd (br_f hd ⟨rfl, J⟩)
theorem i_vc_load {k : Nat} {u : SX} {v : SY} (I : i_Rel k u v) (hk : k + 5 ≤ 2560) (v1 : Int32) (v2 : Int32) : wpX_load (fun r u' => wpY_load (fun r' v' => r' = r ∧ i_Rel (k + 5) u' v') v v1 v2) u v1 v2 := by
  obtain ⟨f_gates, f_hasDevice, f_cells, f_inputLevels, f_registerLevels, a_kindOfGate, a_firstOfGate, a_secondOfGate, a_thirdOfGate, a_nextOfRegister, a_shownByOutput, a_placeOfSignal, a_tableOfCell, a_firstWireOfCell, a_secondWireOfCell, a_thirdWireOfCell, a_wireOfRegister, a_wireOfOutput⟩ := u
  obtain ⟨f_size, f_builtSize, f_isBuilt, f_given, f_state, a_gates, a_wires, a_values, a_seen⟩ := v
  have J := i_up I
  obtain ⟨hg, hb, hCi, hE⟩ := I
  have hg' : f_given = f_inputLevels := hg
  have hb' : f_isBuilt = f_hasDevice := hb
  subst hg'
  subst hb'
  rcases hE with h0 | ⟨h1, m, K, A, B, C, w, P, R, rfl, rfl, rfl, rfl, hR, hC, hD, hY⟩
  · exact br_t h0 (br_t h0 ⟨rfl, J⟩)
  have hd : ¬ f_isBuilt = 0 := by
    rw [show f_isBuilt = 1 from h1]
    decide
  rcases pk_ix v1 (n := 6) (by decide) with h | h | ⟨j, hj, rfl⟩
  · exact br_f hd (cf_rgX0 (Or.inl h) (br_t rfl (br_f hd (br_t h ⟨rfl, J⟩))))
  · exact br_f hd (cf_rgX0 (Or.inr h) (br_t rfl (br_f hd (br_f (cf_l6 h).1 (br_t (cf_l6 h).2 ⟨rfl, J⟩)))))
  · have y0 : ¬ nI j < 0 := nI_pos (by omega)
    have y5 : ¬ 5 < nI j := nI_nlt (a := 5) (by omega) (by decide)
    by_cases hv : v2 = 0 ∨ v2 = 1
    · obtain ⟨b, hb2, rfl⟩ : ∃ b, b < 2 ∧ v2 = nI b := by
        rcases hv with h | h
        · exact ⟨0, by decide, h⟩
        · exact ⟨1, by decide, h⟩
      refine br_f hd (cf_rgX1 hj (br_f cf_10n (cf_lvX1 hv (br_f cf_10n (cf_wbX (br_f hd (br_f y0 (br_f y5 (br_f (cf_levOk hv).1 (br_t (cf_levOk hv).2 (nm_e ⟨rfl, rfl, rfl, hCi, Or.inr ⟨h1, m, K, A, B, C, w, P, _, rfl, rfl, cf_ofB _, cf_ofB _, cf_wb64 R hR j hj b hb2, hC, hD, hY⟩⟩)))))))))))
    · have v0 : ¬ v2 = 0 := fun z => hv (Or.inl z)
      have w1 : ¬ v2 = 1 := fun z => hv (Or.inr z)
      refine br_f hd (cf_rgX1 hj (br_f cf_10n (cf_lvX0 v0 w1 (br_t rfl (br_f hd (br_f y0 (br_f y5 ?_)))))))
      rcases cf_lev v0 w1 with h | ⟨h, h'⟩
      · exact br_t h ⟨rfl, J⟩
      · exact br_f h (br_f h' ⟨rfl, J⟩)
theorem i_vc_outputs {k : Nat} {u : SX} {v : SY} (I : i_Rel k u v) (hk : k + 5 ≤ 2560) : wpX_outputs (fun r => wpY_outputs (fun r' v' => r' = r ∧ i_Rel (k + 5) u v') v) u := by
  obtain ⟨f_gates, f_hasDevice, f_cells, f_inputLevels, f_registerLevels, a_kindOfGate, a_firstOfGate, a_secondOfGate, a_thirdOfGate, a_nextOfRegister, a_shownByOutput, a_placeOfSignal, a_tableOfCell, a_firstWireOfCell, a_secondWireOfCell, a_thirdWireOfCell, a_wireOfRegister, a_wireOfOutput⟩ := u
  obtain ⟨f_size, f_builtSize, f_isBuilt, f_given, f_state, a_gates, a_wires, a_values, a_seen⟩ := v
  have J := i_up I
  obtain ⟨hg, hb, hCi, hE⟩ := I
  have hg' : f_given = f_inputLevels := hg
  have hb' : f_isBuilt = f_hasDevice := hb
  subst hg'
  subst hb'
  rcases hE with h0 | ⟨h1, m, K, A, B, C, w, P, R, rfl, rfl, rfl, rfl, hR, hC, hD, hY⟩
  · exact br_t h0 (br_t h0 ⟨rfl, J⟩)
  have hd : ¬ f_isBuilt = 0 := by
    rw [show f_isBuilt = 1 from h1]
    decide
  refine br_f hd (cf_shX hC hD (cf_ouY hd hC hY ?_))
  intro val
  exact ⟨rfl, rfl, rfl, hCi, Or.inr ⟨h1, m, K, A, B, C, w, P, R, rfl, rfl, rfl, rfl, hR, hC, hD, hY⟩⟩
theorem i_vc_feed {k : Nat} {u : SX} {v : SY} (I : i_Rel k u v) (hk : k + 5 ≤ 2560) (v1 : Int32) : wpX_feed (fun r u' => wpY_feed (fun r' v' => r' = r ∧ i_Rel (k + 5) u' v') v v1) u v1 := by
  obtain ⟨f_gates, f_hasDevice, f_cells, f_inputLevels, f_registerLevels, a_kindOfGate, a_firstOfGate, a_secondOfGate, a_thirdOfGate, a_nextOfRegister, a_shownByOutput, a_placeOfSignal, a_tableOfCell, a_firstWireOfCell, a_secondWireOfCell, a_thirdWireOfCell, a_wireOfRegister, a_wireOfOutput⟩ := u
  obtain ⟨f_size, f_builtSize, f_isBuilt, f_given, f_state, a_gates, a_wires, a_values, a_seen⟩ := v
  have J := i_up I
  obtain ⟨hg, hb, hCi, hE⟩ := I
  have hg' : f_given = f_inputLevels := hg
  have hb' : f_isBuilt = f_hasDevice := hb
  subst hg'
  subst hb'
  rcases hE with h0 | ⟨h1, m, K, A, B, C, w, P, R, rfl, rfl, rfl, rfl, hR, hC, hD, hY⟩
  · exact br_t h0 (br_t h0 ⟨rfl, J⟩)
  have hd : ¬ f_isBuilt = 0 := by
    rw [show f_isBuilt = 1 from h1]
    decide
  by_cases n0 : v1 < 0
  · exact br_f hd (br_t n0 (br_f hd (br_t n0 ⟨rfl, J⟩)))
  by_cases n9 : v1 ≤ 63
  · refine br_f hd (br_f n0 (br_t n9 (cf_shX hC hD (cf_afX hC hD R (br_f hd (br_f n0 (br_t n9 (cf_ouY hd hC hY ?_))))))))
    intro val
    dsimp only
    refine cf_foY hC hY R ?_
    intro val'
    exact ⟨rfl, rfl, rfl, hCi, Or.inr ⟨h1, m, K, A, B, C, w, P, _, rfl, rfl, rfl, rfl, cf_st64 _ _ _ _ _ _ _, hC, hD, hY⟩⟩
  · exact br_f hd (br_f n0 (br_f n9 (br_f hd (br_f n0 (br_f n9 ⟨rfl, J⟩)))))
theorem i_vc_tail {k : Nat} {u : SX} {v : SY} (I : i_Rel k u v) (hk : k + 5 ≤ 2560) : wpX_tail (fun r => wpY_tail (fun r' v' => r' = r ∧ i_Rel (k + 5) u v') v) u := by
  obtain ⟨f_gates, f_hasDevice, f_cells, f_inputLevels, f_registerLevels, a_kindOfGate, a_firstOfGate, a_secondOfGate, a_thirdOfGate, a_nextOfRegister, a_shownByOutput, a_placeOfSignal, a_tableOfCell, a_firstWireOfCell, a_secondWireOfCell, a_thirdWireOfCell, a_wireOfRegister, a_wireOfOutput⟩ := u
  obtain ⟨f_size, f_builtSize, f_isBuilt, f_given, f_state, a_gates, a_wires, a_values, a_seen⟩ := v
  have J := i_up I
  obtain ⟨hg, hb, hCi, hE⟩ := I
  have hg' : f_given = f_inputLevels := hg
  have hb' : f_isBuilt = f_hasDevice := hb
  subst hg'
  subst hb'
  rcases hE with h0 | ⟨h1, m, K, A, B, C, w, P, R, rfl, rfl, rfl, rfl, hR, hC, hD, hY⟩
  · exact br_t h0 (br_t h0 ⟨rfl, J⟩)
  have hd : ¬ f_isBuilt = 0 := by
    rw [show f_isBuilt = 1 from h1]
    decide
  obtain ⟨t, e, hl⟩ := cf_lo (cf_st64 K A B C w f_given) hR
  refine cf_taX hd hC hD hR hl (cf_taY hd hC hY hR hl ?_)
  intro val seen
  exact ⟨rfl, rfl, rfl, hCi, Or.inr ⟨h1, m, K, A, B, C, w, P, R, rfl, rfl, rfl, rfl, hR, hC, hD, hY⟩⟩
theorem i_vc_period {k : Nat} {u : SX} {v : SY} (I : i_Rel k u v) (hk : k + 5 ≤ 2560) : wpX_period (fun r => wpY_period (fun r' v' => r' = r ∧ i_Rel (k + 5) u v') v) u := by
  obtain ⟨f_gates, f_hasDevice, f_cells, f_inputLevels, f_registerLevels, a_kindOfGate, a_firstOfGate, a_secondOfGate, a_thirdOfGate, a_nextOfRegister, a_shownByOutput, a_placeOfSignal, a_tableOfCell, a_firstWireOfCell, a_secondWireOfCell, a_thirdWireOfCell, a_wireOfRegister, a_wireOfOutput⟩ := u
  obtain ⟨f_size, f_builtSize, f_isBuilt, f_given, f_state, a_gates, a_wires, a_values, a_seen⟩ := v
  have J := i_up I
  obtain ⟨hg, hb, hCi, hE⟩ := I
  have hg' : f_given = f_inputLevels := hg
  have hb' : f_isBuilt = f_hasDevice := hb
  subst hg'
  subst hb'
  rcases hE with h0 | ⟨h1, m, K, A, B, C, w, P, R, rfl, rfl, rfl, rfl, hR, hC, hD, hY⟩
  · exact br_t h0 (br_t h0 ⟨rfl, J⟩)
  have hd : ¬ f_isBuilt = 0 := by
    rw [show f_isBuilt = 1 from h1]
    decide
  obtain ⟨t, e, hl⟩ := cf_lo (cf_st64 K A B C w f_given) hR
  refine cf_peX hd hC hD hR hl (cf_peY hd hC hY hR hl ?_)
  intro val seen
  exact ⟨rfl, rfl, rfl, hCi, Or.inr ⟨h1, m, K, A, B, C, w, P, R, rfl, rfl, rfl, rfl, hR, hC, hD, hY⟩⟩
