/-! the device on both sides -/
def cf_D (m : Nat) (K A B C w P : Nat → Nat) (plc tab w1 w2 w3 wr wo : Nat → Int32) : Prop :=
  cf_P P ∧ (∀ s, s < 32 → plc s = nI (P s)) ∧
  (∀ g, g < m → tab (P (12 + g)) = cf_tb (K g) 8 ∧ w1 (P (12 + g)) = nI (P (A g)) ∧ w2 (P (12 + g)) = nI (P (B g)) ∧ w3 (P (12 + g)) = nI (P (if K g < 7 then A g else C g))) ∧
  (∀ r, r < 6 → wr r = nI (P (w r))) ∧ ∀ o, o < 4 → wo o = nI (P (w (6 + o)))
/-- the reference's circuit, from o4 on in gates and from ow on in wires -/
def cf_Y (o4 ow n : Nat) (K A B C w : Nat → Nat) (gts wrs : Nat → Int32) : Prop :=
  (∀ g, g < n → gts (o4 + 4 * g) = nI (K g) ∧ gts (o4 + 4 * g + 1) = nI (A g) ∧ gts (o4 + 4 * g + 2) = nI (B g) ∧ gts (o4 + 4 * g + 3) = nI (C g)) ∧ ∀ j, j < 10 → wrs (ow + j) = nI (w j)
theorem cf_12 (a : Nat) : 12 + nI a = nI (12 + a) := nI_add 12 a
theorem cf_6 (a : Nat) : 6 + nI a = nI (6 + a) := nI_add 6 a
theorem cf_10 (a : Nat) : 10 + nI a = nI (10 + a) := nI_add 10 a
theorem cf_16 (a : Nat) : 16 + nI a = nI (16 + a) := nI_add 16 a
theorem cf_80 (a : Nat) : 80 + nI a = nI (80 + a) := nI_add 80 a
theorem cf_4m (a : Nat) : 4 * nI a = nI (4 * a) := pk_mul 4 a
theorem cf_a1 (a : Nat) : nI a + 1 = nI (a + 1) := nI_add a 1
theorem cf_a2 (a : Nat) : nI a + 2 = nI (a + 2) := nI_add a 2
theorem cf_a3 (a : Nat) : nI a + 3 = nI (a + 3) := nI_add a 3
theorem cf_in {x : Int32} {n N : Nat} (hx : x = nI n) (h : n < N) (hN : N < 2 ^ 31) : vp_in x N := by
  subst hx
  exact vp_in_nI h hN
theorem cf_at {f : Nat → Int32} {x y : Int32} {n : Nat} (hx : x = nI n) (hn : n < 2 ^ 31) (hf : f n = y) : f x.toNatClampNeg = y := by
  subst hx
  rw [nI_clamp hn]
  exact hf
section CFX
variable {m : Nat} {K A B C w P : Nat → Nat}
variable {f_gates : Int32} {f_hasDevice : Int32} {f_inputLevels : Int32} {f_registerLevels : Int32} {a_kindOfGate : Nat → Int32} {a_firstOfGate : Nat → Int32} {a_secondOfGate : Nat → Int32} {a_thirdOfGate : Nat → Int32} {a_nextOfRegister : Nat → Int32} {a_shownByOutput : Nat → Int32} {a_placeOfSignal : Nat → Int32} {a_tableOfCell : Nat → Int32} {a_firstWireOfCell : Nat → Int32} {a_secondWireOfCell : Nat → Int32} {a_thirdWireOfCell : Nat → Int32} {a_wireOfRegister : Nat → Int32} {a_wireOfOutput : Nat → Int32}
theorem cf_cellX {post : Int32 → Prop} {f_cells : Int32} (hC : cf_C m K A B C w) (hD : cf_D m K A B C w P a_placeOfSignal a_tableOfCell a_firstWireOfCell a_secondWireOfCell a_thirdWireOfCell a_wireOfRegister a_wireOfOutput)
    (x y : Int32) {g : Nat} (hg : g < m) {L : Int32} (hL : cf_L P (cf_V K A B C x y) (12 + g) L) (h : post (cf_bi (cf_V K A B C x y (12 + g)))) :
    wpX_levelOfCell post (f_gates, f_hasDevice, f_cells, f_inputLevels, f_registerLevels, a_kindOfGate, a_firstOfGate, a_secondOfGate, a_thirdOfGate, a_nextOfRegister, a_shownByOutput, a_placeOfSignal, a_tableOfCell, a_firstWireOfCell, a_secondWireOfCell, a_thirdWireOfCell, a_wireOfRegister, a_wireOfOutput) (nI (P (12 + g))) L := by
  obtain ⟨hK, hA, hB, hc⟩ := hC.2.1 g hg
  have hm := hC.1
  obtain ⟨hP, hpl, hG, -, -⟩ := hD
  obtain ⟨h1, h2, h3, h4⟩ := hG g hg
  have p32 := hP.1 (12 + g) (by omega)
  have hin : vp_in (nI (P (12 + g))) 32 := vp_in_nI p32 (by decide)
  have hc' : (if K g < 7 then A g else C g) < 12 + g := by split <;> assumption
  refine ⟨hin, cf_bitX (P (A g)) (hP.1 _ (by omega)) (cf_at rfl (by omega) h2) ⟨hin, cf_bitX (P (B g)) (hP.1 _ (by omega)) (cf_at rfl (by omega) h3) ⟨hin, cf_bitX (P (if K g < 7 then A g else C g)) (hP.1 _ (by omega)) (cf_at rfl (by omega) h4) ⟨hin, ?_⟩⟩⟩⟩
  rw [cf_Lr hL hA (by omega), cf_Lr hL hB (by omega), cf_Lr hL hc' (by omega)]
  refine cf_bitX _ (Nat.lt_of_lt_of_le (cf_ix8 _ _ _) (by decide)) (cf_ixI _ _ _) ?_
  rw [nI_clamp (by omega), h1, cf_tbx (K g) hK]
  rw [cf_Vg hC x y hg] at h
  have e : cf_mk (K g) (cf_V K A B C x y (A g)) (cf_V K A B C x y (B g)) (cf_V K A B C x y (if K g < 7 then A g else C g)) = cf_mk (K g) (cf_V K A B C x y (A g)) (cf_V K A B C x y (B g)) (cf_V K A B C x y (C g)) := by
    by_cases h7 : K g < 7
    · exact cf_mk7 h7 _ _ _ _
    · rw [if_neg h7]
  rw [e]
  exact h
theorem cf_lv68 {post : Int32 → Prop} (hC : cf_C m K A B C w) (hD : cf_D m K A B C w P a_placeOfSignal a_tableOfCell a_firstWireOfCell a_secondWireOfCell a_thirdWireOfCell a_wireOfRegister a_wireOfOutput)
    (x y : Int32) {L : Int32} (hL : cf_L P (cf_V K A B C x y) 12 L) (h : ∀ L', cf_L P (cf_V K A B C x y) (12 + m) L' → post L') :
    ∃ n, wX_levelsOfPlaces_68 post f_gates f_hasDevice (nI m) f_inputLevels f_registerLevels a_kindOfGate a_firstOfGate a_secondOfGate a_thirdOfGate a_nextOfRegister a_shownByOutput a_placeOfSignal a_tableOfCell a_firstWireOfCell a_secondWireOfCell a_thirdWireOfCell a_wireOfRegister a_wireOfOutput n L 0 := by
  have hm := hC.1
  refine loop_0 (fun n i L => wX_levelsOfPlaces_68 post f_gates f_hasDevice (nI m) f_inputLevels f_registerLevels a_kindOfGate a_firstOfGate a_secondOfGate a_thirdOfGate a_nextOfRegister a_shownByOutput a_placeOfSignal a_tableOfCell a_firstWireOfCell a_secondWireOfCell a_thirdWireOfCell a_wireOfRegister a_wireOfOutput n L (nI i)) (fun i L => cf_L P (cf_V K A B C x y) (12 + i) L) m L hL (fun n L hL => br_t (nI_le (Nat.le_refl m) (by omega)) (h L hL)) ?_
  intro n i L hi hL k
  refine br_f (nI_ge hi (by omega)) ⟨cf_in (cf_12 i) (by omega) (by decide), nm_r (cf_at (cf_12 i) (by omega) (hD.2.1 (12 + i) (by omega))) ?_⟩
  refine cf_cellX hC hD x y hi hL (nm_e (nm_r (nI_1 i) (k _ ?_)))
  exact cf_Ls (n := 12 + i) hD.1 hL (by omega)
theorem cf_lv36 {post : Int32 → Prop} (hC : cf_C m K A B C w) (hD : cf_D m K A B C w P a_placeOfSignal a_tableOfCell a_firstWireOfCell a_secondWireOfCell a_thirdWireOfCell a_wireOfRegister a_wireOfOutput)
    (x y : Int32) {L : Int32} (hL : cf_L P (cf_V K A B C x y) 6 L) (h : ∀ L', cf_L P (cf_V K A B C x y) (12 + m) L' → post L') :
    ∃ n, wX_levelsOfPlaces_36 post y f_gates f_hasDevice (nI m) f_inputLevels f_registerLevels a_kindOfGate a_firstOfGate a_secondOfGate a_thirdOfGate a_nextOfRegister a_shownByOutput a_placeOfSignal a_tableOfCell a_firstWireOfCell a_secondWireOfCell a_thirdWireOfCell a_wireOfRegister a_wireOfOutput n L 0 := by
  refine loop_0 (fun n i L => wX_levelsOfPlaces_36 post y f_gates f_hasDevice (nI m) f_inputLevels f_registerLevels a_kindOfGate a_firstOfGate a_secondOfGate a_thirdOfGate a_nextOfRegister a_shownByOutput a_placeOfSignal a_tableOfCell a_firstWireOfCell a_secondWireOfCell a_thirdWireOfCell a_wireOfRegister a_wireOfOutput n L (nI i)) (fun i L => cf_L P (cf_V K A B C x y) (6 + i) L) 6 L hL (fun n L hL => br_t (by decide) (cf_lv68 hC hD x y hL h)) ?_
  intro n i L hi hL k
  refine br_f (nI_ge (b := 6) hi (by decide)) (cf_bitX i (by omega) rfl ⟨cf_in (cf_6 i) (by omega) (by decide), nm_e (nm_r (nI_1 i) (k _ ?_))⟩)
  rw [cf_at (cf_6 i) (by omega) (hD.2.1 (6 + i) (by omega)), ← cf_Vr K A B C x y hi]
  exact cf_Ls (n := 6 + i) hD.1 hL (by omega)
theorem cf_lvX {post : Int32 → Prop} (hC : cf_C m K A B C w) (hD : cf_D m K A B C w P a_placeOfSignal a_tableOfCell a_firstWireOfCell a_secondWireOfCell a_thirdWireOfCell a_wireOfRegister a_wireOfOutput)
    (y : Int32) (h : ∀ L', cf_L P (cf_V K A B C f_inputLevels y) (12 + m) L' → post L') :
    wpX_levelsOfPlaces post (f_gates, f_hasDevice, nI m, f_inputLevels, f_registerLevels, a_kindOfGate, a_firstOfGate, a_secondOfGate, a_thirdOfGate, a_nextOfRegister, a_shownByOutput, a_placeOfSignal, a_tableOfCell, a_firstWireOfCell, a_secondWireOfCell, a_thirdWireOfCell, a_wireOfRegister, a_wireOfOutput) y := by
  refine loop_0 (fun n i L => wX_levelsOfPlaces_4 post y f_gates f_hasDevice (nI m) f_inputLevels f_registerLevels a_kindOfGate a_firstOfGate a_secondOfGate a_thirdOfGate a_nextOfRegister a_shownByOutput a_placeOfSignal a_tableOfCell a_firstWireOfCell a_secondWireOfCell a_thirdWireOfCell a_wireOfRegister a_wireOfOutput n L (nI i)) (fun i L => cf_L P (cf_V K A B C f_inputLevels y) i L) 6 0 (cf_L0 _ _) (fun n L hL => br_t (by decide) (cf_lv36 hC hD f_inputLevels y hL h)) ?_
  intro n i L hi hL k
  refine br_f (nI_ge (b := 6) hi (by decide)) (cf_bitX i (by omega) rfl ⟨vp_in_nI (by omega) (by decide), nm_e (nm_r (nI_1 i) (k _ ?_))⟩)
  rw [cf_at rfl (by omega) (hD.2.1 i (by omega)), ← cf_Vi K A B C f_inputLevels y hi]
  exact cf_Ls hD.1 hL (by omega)
theorem cf_afX {post : Int32 → Prop} (hC : cf_C m K A B C w) (hD : cf_D m K A B C w P a_placeOfSignal a_tableOfCell a_firstWireOfCell a_secondWireOfCell a_thirdWireOfCell a_wireOfRegister a_wireOfOutput)
    (R : Nat) (h : post (nI (cf_st K A B C w f_inputLevels R))) :
    wpX_registersAfter post (f_gates, f_hasDevice, nI m, f_inputLevels, f_registerLevels, a_kindOfGate, a_firstOfGate, a_secondOfGate, a_thirdOfGate, a_nextOfRegister, a_shownByOutput, a_placeOfSignal, a_tableOfCell, a_firstWireOfCell, a_secondWireOfCell, a_thirdWireOfCell, a_wireOfRegister, a_wireOfOutput) (nI R) := by
  refine cf_lvX (post := fun r_1 => ∃ n11 : Nat, wX_registersAfter_11 post r_1 f_gates f_hasDevice (nI m) f_inputLevels f_registerLevels a_kindOfGate a_firstOfGate a_secondOfGate a_thirdOfGate a_nextOfRegister a_shownByOutput a_placeOfSignal a_tableOfCell a_firstWireOfCell a_secondWireOfCell a_thirdWireOfCell a_wireOfRegister a_wireOfOutput n11 0 0) hC hD (nI R) ?_
  intro L hL
  have hm := hC.1
  refine loop_0 (fun n i s => wX_registersAfter_11 post L f_gates f_hasDevice (nI m) f_inputLevels f_registerLevels a_kindOfGate a_firstOfGate a_secondOfGate a_thirdOfGate a_nextOfRegister a_shownByOutput a_placeOfSignal a_tableOfCell a_firstWireOfCell a_secondWireOfCell a_thirdWireOfCell a_wireOfRegister a_wireOfOutput n s (nI i)) (fun i s => s = cf_ac (fun r => cf_V K A B C f_inputLevels (nI R) (w r)) i) 6 0 rfl (fun n s hs => br_t (by decide) (by rw [hs, cf_ac6]; exact h)) ?_
  intro n i s hi hs k
  have hw := hC.2.2 i (by omega)
  refine br_f (nI_ge (b := 6) hi (by decide)) ⟨vp_in_nI hi (by decide), cf_bitX (P (w i)) (hD.1.1 _ (by omega)) (cf_at rfl (by omega) (hD.2.2.2.1 i hi)) (nm_e (nm_r (nI_1 i) (k _ ?_)))⟩
  rw [hs, cf_Lr hL hw (by omega)]
  rfl
theorem cf_shX {post : Int32 → Prop} (hC : cf_C m K A B C w) (hD : cf_D m K A B C w P a_placeOfSignal a_tableOfCell a_firstWireOfCell a_secondWireOfCell a_thirdWireOfCell a_wireOfRegister a_wireOfOutput)
    (h : post (cf_ac (fun o => cf_V K A B C f_inputLevels f_registerLevels (w (6 + o))) 4)) :
    wpX_shownLevels post (f_gates, f_hasDevice, nI m, f_inputLevels, f_registerLevels, a_kindOfGate, a_firstOfGate, a_secondOfGate, a_thirdOfGate, a_nextOfRegister, a_shownByOutput, a_placeOfSignal, a_tableOfCell, a_firstWireOfCell, a_secondWireOfCell, a_thirdWireOfCell, a_wireOfRegister, a_wireOfOutput) := by
  refine cf_lvX (post := fun r_1 => ∃ n13 : Nat, wX_shownLevels_13 post r_1 f_gates f_hasDevice (nI m) f_inputLevels f_registerLevels a_kindOfGate a_firstOfGate a_secondOfGate a_thirdOfGate a_nextOfRegister a_shownByOutput a_placeOfSignal a_tableOfCell a_firstWireOfCell a_secondWireOfCell a_thirdWireOfCell a_wireOfRegister a_wireOfOutput n13 0 0) hC hD f_registerLevels ?_
  intro L hL
  have hm := hC.1
  refine loop_0 (fun n i s => wX_shownLevels_13 post L f_gates f_hasDevice (nI m) f_inputLevels f_registerLevels a_kindOfGate a_firstOfGate a_secondOfGate a_thirdOfGate a_nextOfRegister a_shownByOutput a_placeOfSignal a_tableOfCell a_firstWireOfCell a_secondWireOfCell a_thirdWireOfCell a_wireOfRegister a_wireOfOutput n s (nI i)) (fun i s => s = cf_ac (fun o => cf_V K A B C f_inputLevels f_registerLevels (w (6 + o))) i) 4 0 rfl (fun n s hs => br_t (by decide) (by rw [hs]; exact h)) ?_
  intro n i s hi hs k
  have hw := hC.2.2 (6 + i) (by omega)
  refine br_f (nI_ge (b := 4) hi (by decide)) ⟨vp_in_nI hi (by decide), cf_bitX (P (w (6 + i))) (hD.1.1 _ (by omega)) (cf_at rfl (by omega) (hD.2.2.2.2 i hi)) (nm_e (nm_r (nI_1 i) (k _ ?_)))⟩
  rw [hs, cf_Lr hL hw (by omega)]
  rfl
end CFX
section CFY
variable {m : Nat} {K A B C w : Nat → Nat}
variable {f_size : Int32} {f_isBuilt : Int32} {f_given : Int32} {f_state : Int32} {a_gates : Nat → Int32} {a_wires : Nat → Int32} {a_values : Nat → Int32} {a_seen : Nat → Int32}
theorem cf_wk44 {post : SY → Prop} (hC : cf_C m K A B C w) (hY : cf_Y 80 10 m K A B C w a_gates a_wires) (x y : Int32)
    (h0 : ∀ s, s < 12 → a_values s = cf_bi (cf_V K A B C x y s)) (h : ∀ val : Nat → Int32, (∀ s, s < 12 + m → val s = cf_bi (cf_V K A B C x y s)) → post (f_size, nI m, f_isBuilt, f_given, f_state, a_gates, a_wires, val, a_seen)) :
    ∃ n, wY_work_44 post f_size (nI m) f_isBuilt f_given f_state n 0 a_gates a_wires a_values a_seen := by
  have hm := hC.1
  refine loop_0 (fun n i val => wY_work_44 post f_size (nI m) f_isBuilt f_given f_state n (nI i) a_gates a_wires val a_seen) (fun i val => ∀ s, s < 12 + i → val s = cf_bi (cf_V K A B C x y s)) m a_values h0 (fun n val hv => br_t (nI_le (Nat.le_refl m) (by omega)) (h val hv)) ?_
  intro n i val hi hv k
  obtain ⟨hK, hA, hB, hc⟩ := hC.2.1 i hi
  obtain ⟨g0, g1, g2, g3⟩ := hY.1 i hi
  have e0 : 80 + 4 * nI i = nI (80 + 4 * i) := by rw [cf_4m, cf_80]
  refine br_f (nI_ge hi (by omega)) (nm_r e0 ?_)
  refine ⟨vp_in_nI (by omega) (by decide), cf_in (cf_a1 _) (by omega) (by decide), cf_in (cf_at (cf_a1 _) (by omega) g1) (by omega) (by decide), cf_in (cf_a2 _) (by omega) (by decide), cf_in (cf_at (cf_a2 _) (by omega) g2) (by omega) (by decide), cf_in (cf_a3 _) (by omega) (by decide), cf_in (cf_at (cf_a3 _) (by omega) g3) (by omega) (by decide), ?_⟩
  rw [cf_at rfl (by omega) g0, cf_at (cf_at (cf_a1 _) (by omega) g1) (by omega) (hv _ (by omega)), cf_at (cf_at (cf_a2 _) (by omega) g2) (by omega) (hv _ (by omega)), cf_at (cf_at (cf_a3 _) (by omega) g3) (by omega) (hv _ (by omega))]
  refine cf_kY hK _ _ _ ⟨cf_in (cf_12 i) (by omega) (by decide), nm_e (nm_r (nI_1 i) (k _ ?_))⟩
  intro s hs
  rw [← cf_Vg hC x y hi, pk_cl (12 + i) (cf_12 i) (by omega)]
  by_cases e : s = 12 + i
  · subst e
    exact pk_us
  · rw [pk_un e]
    exact hv s (by omega)
theorem cf_wkY {post : SY → Prop} (hC : cf_C m K A B C w) (hY : cf_Y 80 10 m K A B C w a_gates a_wires) (y : Int32)
    (h : ∀ val : Nat → Int32, (∀ s, s < 12 + m → val s = cf_bi (cf_V K A B C f_given y s)) → post (f_size, nI m, f_isBuilt, f_given, f_state, a_gates, a_wires, val, a_seen)) :
    wpY_work post (f_size, nI m, f_isBuilt, f_given, f_state, a_gates, a_wires, a_values, a_seen) y := by
  refine loop_0 (fun n i val => wY_work_2 post y f_size (nI m) f_isBuilt f_given f_state n (nI i) a_gates a_wires val a_seen) (fun i val => ∀ j, j < i → val j = cf_bi (cf_V K A B C f_given y j) ∧ val (6 + j) = cf_bi (cf_V K A B C f_given y (6 + j))) 6 a_values (fun j hj => absurd hj (Nat.not_lt_zero j)) ?_ ?_
  · intro n val hv
    refine br_t (by decide) (cf_wk44 hC hY f_given y ?_ h)
    intro s hs
    by_cases h6 : s < 6
    · exact (hv s h6).1
    · have := (hv (s - 6) (by omega)).2
      rw [show 6 + (s - 6) = s by omega] at this
      exact this
  · intro n i val hi hv k
    refine br_f (nI_ge (b := 6) hi (by decide)) ⟨vp_in_nI (by omega) (by decide), nm_e ⟨cf_in (cf_6 i) (by omega) (by decide), nm_e (nm_r (nI_1 i) (k _ ?_))⟩⟩
    intro j hj
    rw [cf_sit f_given (show i < 32 by omega), cf_sit y (show i < 32 by omega), nI_clamp (show i < 2 ^ 31 by omega), pk_cl (6 + i) (cf_6 i) (by omega)]
    by_cases e : j = i
    · subst e
      refine ⟨?_, ?_⟩
      · rw [pk_un (by omega), pk_us, cf_Vi K A B C f_given y hi]
      · rw [pk_us, cf_Vr K A B C f_given y hi]
    · rw [pk_un (by omega), pk_un e, pk_un (by omega), pk_un (by omega)]
      exact hv j (by omega)
theorem cf_foY {post : Int32 → SY → Prop} (hC : cf_C m K A B C w) (hY : cf_Y 80 10 m K A B C w a_gates a_wires) (R : Nat)
    (h : ∀ val : Nat → Int32, post (nI (cf_st K A B C w f_given R)) (f_size, nI m, f_isBuilt, f_given, f_state, a_gates, a_wires, val, a_seen)) :
    wpY_following post (f_size, nI m, f_isBuilt, f_given, f_state, a_gates, a_wires, a_values, a_seen) (nI R) := by
  unfold wpY_following
  dsimp only
  refine cf_wkY hC hY (nI R) ?_
  intro val hv
  dsimp only
  have hm := hC.1
  refine loop_0 (fun n i s => wY_following_9 post f_size (nI m) f_isBuilt f_given f_state a_gates a_wires val a_seen n s (nI i)) (fun i s => s = cf_ac (fun r => cf_V K A B C f_given (nI R) (w r)) i) 6 0 rfl (fun n s hs => br_t (by decide) (by rw [hs, cf_ac6]; exact h val)) ?_
  intro n i s hi hs k
  have hw := hC.2.2 i (by omega)
  have e1 := cf_at (cf_10 i) (by omega) (hY.2 i (by omega))
  refine br_f (nI_ge (b := 6) hi (by decide)) ⟨cf_in (cf_10 i) (by omega) (by decide), cf_in e1 (by omega) (by decide), nm_e (nm_r (nI_1 i) (k _ ?_))⟩
  rw [cf_at e1 (by omega) (hv _ hw), hs]
  rfl
theorem cf_ouY {post : Int32 → SY → Prop} (hb : ¬ f_isBuilt = 0) (hC : cf_C m K A B C w) (hY : cf_Y 80 10 m K A B C w a_gates a_wires)
    (h : ∀ val : Nat → Int32, post (cf_ac (fun o => cf_V K A B C f_given f_state (w (6 + o))) 4) (f_size, nI m, f_isBuilt, f_given, f_state, a_gates, a_wires, val, a_seen)) :
    wpY_outputs post (f_size, nI m, f_isBuilt, f_given, f_state, a_gates, a_wires, a_values, a_seen) := by
  refine br_f hb ?_
  refine cf_wkY hC hY f_state ?_
  intro val hv
  dsimp only
  have hm := hC.1
  refine loop_0 (fun n i s => wY_outputs_21 post f_size (nI m) f_isBuilt f_given f_state a_gates a_wires val a_seen n s (nI i)) (fun i s => s = cf_ac (fun o => cf_V K A B C f_given f_state (w (6 + o))) i) 4 0 rfl (fun n s hs => br_t (by decide) (by rw [hs]; exact h val)) ?_
  intro n i s hi hs k
  have hw := hC.2.2 (6 + i) (by omega)
  have e0 : a_wires (16 + i) = nI (w (6 + i)) := by
    have := hY.2 (6 + i) (by omega)
    rw [show 10 + (6 + i) = 16 + i by omega] at this
    exact this
  have e1 := cf_at (cf_16 i) (by omega) e0
  refine br_f (nI_ge (b := 4) hi (by decide)) ⟨cf_in (cf_16 i) (by omega) (by decide), cf_in e1 (by omega) (by decide), nm_e (nm_r (nI_1 i) (k _ ?_))⟩
  rw [cf_at e1 (by omega) (hv _ hw), hs]
  rfl
end CFY
