/-! the circuit on the component's side; build -/
def cf_X (n : Nat) (K A B C w : Nat → Nat) (kind fst snd thd nxt shn : Nat → Int32) : Prop :=
  (∀ g, g < n → kind g = nI (K g) ∧ fst g = nI (A g) ∧ snd g = nI (B g) ∧ thd g = nI (if K g < 7 then A g else C g)) ∧
  (∀ r, r < 6 → nxt r = nI (w r)) ∧ ∀ o, o < 4 → shn o = nI (w (6 + o))
section CFX
variable {n : Nat} {K A B C w P : Nat → Nat}
theorem cf_cpX {post : SX → Prop} {f_gates : Int32} {f_hasDevice : Int32} {f_cells : Int32} {f_inputLevels : Int32} {f_registerLevels : Int32} {a_kindOfGate : Nat → Int32} {a_firstOfGate : Nat → Int32} {a_secondOfGate : Nat → Int32} {a_thirdOfGate : Nat → Int32} {a_nextOfRegister : Nat → Int32} {a_shownByOutput : Nat → Int32} {a_placeOfSignal : Nat → Int32} {a_tableOfCell : Nat → Int32} {a_firstWireOfCell : Nat → Int32} {a_secondWireOfCell : Nat → Int32} {a_thirdWireOfCell : Nat → Int32} {a_wireOfRegister : Nat → Int32} {a_wireOfOutput : Nat → Int32} {c : Nat} (hc : c ≤ 1000) (h : ∀ plc : Nat → Int32, (∀ s, s < 32 → plc s = nI (cf_pl c s)) → post (f_gates, f_hasDevice, f_cells, f_inputLevels, f_registerLevels, a_kindOfGate, a_firstOfGate, a_secondOfGate, a_thirdOfGate, a_nextOfRegister, a_shownByOutput, plc, a_tableOfCell, a_firstWireOfCell, a_secondWireOfCell, a_thirdWireOfCell, a_wireOfRegister, a_wireOfOutput)) :
    wpX_choosePlaces post (f_gates, f_hasDevice, f_cells, f_inputLevels, f_registerLevels, a_kindOfGate, a_firstOfGate, a_secondOfGate, a_thirdOfGate, a_nextOfRegister, a_shownByOutput, a_placeOfSignal, a_tableOfCell, a_firstWireOfCell, a_secondWireOfCell, a_thirdWireOfCell, a_wireOfRegister, a_wireOfOutput) (nI c) := by
  refine nm_e (loop_0 (fun n i plc => wX_choosePlaces_8 post (nI c) (2 * nI c + 1) f_gates f_hasDevice f_cells f_inputLevels f_registerLevels n (nI i) a_kindOfGate a_firstOfGate a_secondOfGate a_thirdOfGate a_nextOfRegister a_shownByOutput plc a_tableOfCell a_firstWireOfCell a_secondWireOfCell a_thirdWireOfCell a_wireOfRegister a_wireOfOutput) (fun i plc => ∀ s, s < i → plc s = nI (cf_pl c s)) 32 a_placeOfSignal (fun j hj => absurd hj (Nat.not_lt_zero j)) (fun n plc hs => br_t (by decide) (h plc hs)) ?_)
  intro n i plc hi hs k
  refine br_f (nI_ge (b := 32) hi (by decide)) ⟨vp_in_nI hi (by decide), nm_e (nm_r (nI_1 i) (k _ ?_))⟩
  intro j hj
  rw [nI_clamp (by omega), cf_plI hc hi]
  by_cases e : j = i
  · subst e
    exact pk_us
  · rw [pk_un e]
    exact hs j (by omega)
theorem cf_pcX {post : SX → Prop} {f_hasDevice : Int32} {f_cells : Int32} {f_inputLevels : Int32} {f_registerLevels : Int32} {a_kindOfGate : Nat → Int32} {a_firstOfGate : Nat → Int32} {a_secondOfGate : Nat → Int32} {a_thirdOfGate : Nat → Int32} {a_nextOfRegister : Nat → Int32} {a_shownByOutput : Nat → Int32} {a_placeOfSignal : Nat → Int32} {a_tableOfCell : Nat → Int32} {a_firstWireOfCell : Nat → Int32} {a_secondWireOfCell : Nat → Int32} {a_thirdWireOfCell : Nat → Int32} {a_wireOfRegister : Nat → Int32} {a_wireOfOutput : Nat → Int32} (hC : cf_C n K A B C w) (hX : cf_X n K A B C w a_kindOfGate a_firstOfGate a_secondOfGate a_thirdOfGate a_nextOfRegister a_shownByOutput)
    (hP : cf_P P) (hp : ∀ s, s < 32 → a_placeOfSignal s = nI (P s))
    (h : ∀ tab w1 w2 w3 : Nat → Int32, (∀ g, g < n → tab (P (12 + g)) = cf_tb (K g) 8 ∧ w1 (P (12 + g)) = nI (P (A g)) ∧ w2 (P (12 + g)) = nI (P (B g)) ∧ w3 (P (12 + g)) = nI (P (if K g < 7 then A g else C g))) → post (nI n, f_hasDevice, nI n, f_inputLevels, f_registerLevels, a_kindOfGate, a_firstOfGate, a_secondOfGate, a_thirdOfGate, a_nextOfRegister, a_shownByOutput, a_placeOfSignal, tab, w1, w2, w3, a_wireOfRegister, a_wireOfOutput)) :
    wpX_putCells post (nI n, f_hasDevice, f_cells, f_inputLevels, f_registerLevels, a_kindOfGate, a_firstOfGate, a_secondOfGate, a_thirdOfGate, a_nextOfRegister, a_shownByOutput, a_placeOfSignal, a_tableOfCell, a_firstWireOfCell, a_secondWireOfCell, a_thirdWireOfCell, a_wireOfRegister, a_wireOfOutput) := by
  have hn := hC.1
  refine loop_0 (fun q i (s : (Nat → Int32) × (Nat → Int32) × (Nat → Int32) × (Nat → Int32)) => wX_putCells_10 post (nI n) f_hasDevice (nI n) f_inputLevels f_registerLevels q (nI i) a_kindOfGate a_firstOfGate a_secondOfGate a_thirdOfGate a_nextOfRegister a_shownByOutput a_placeOfSignal s.1 s.2.1 s.2.2.1 s.2.2.2 a_wireOfRegister a_wireOfOutput) (fun i s => ∀ g, g < i → s.1 (P (12 + g)) = cf_tb (K g) 8 ∧ s.2.1 (P (12 + g)) = nI (P (A g)) ∧ s.2.2.1 (P (12 + g)) = nI (P (B g)) ∧ s.2.2.2 (P (12 + g)) = nI (P (if K g < 7 then A g else C g))) n (a_tableOfCell, a_firstWireOfCell, a_secondWireOfCell, a_thirdWireOfCell) (fun j hj => absurd hj (Nat.not_lt_zero j)) ?_ ?_
  · rintro q ⟨tab, w1, w2, w3⟩ hs
    exact br_t (nI_le (Nat.le_refl n) (by omega)) (h tab w1 w2 w3 hs)
  · rintro q i ⟨tab, w1, w2, w3⟩ hi hs k
    obtain ⟨hK, hA, hB, hc⟩ := hC.2.1 i hi
    obtain ⟨x1, x2, x3, x4⟩ := hX.1 i hi
    have hc' : (if K i < 7 then A i else C i) < 12 + i := by split <;> assumption
    have p32 := hP.1 (12 + i) (by omega)
    have i20 : vp_in (nI i) 20 := vp_in_nI (by omega) (by decide)
    have iP : vp_in (nI (P (12 + i))) 32 := vp_in_nI p32 (by decide)
    have y2 := cf_at (f := a_firstOfGate) (x := nI i) rfl (by omega) x2
    have y3 := cf_at (f := a_secondOfGate) (x := nI i) rfl (by omega) x3
    have y4 := cf_at (f := a_thirdOfGate) (x := nI i) rfl (by omega) x4
    refine br_f (nI_ge hi (by omega)) ⟨cf_in (cf_12 i) (by omega) (by decide), nm_r (cf_at (cf_12 i) (by omega) (hp (12 + i) (by omega))) ⟨i20, ?_⟩⟩
    rw [cf_at (f := a_kindOfGate) (x := nI i) rfl (by omega) x1]
    refine cf_tX hK ⟨iP, nm_e ⟨i20, cf_in y2 (by omega) (by decide), iP, nm_e ⟨i20, cf_in y3 (by omega) (by decide), iP, nm_e ⟨i20, cf_in y4 (by omega) (by decide), iP, nm_e (nm_r (nI_1 i) (k (upd tab (nI (P (12 + i))).toNatClampNeg (cf_tb (K i) 8), upd w1 (nI (P (12 + i))).toNatClampNeg (a_placeOfSignal (a_firstOfGate (nI i).toNatClampNeg).toNatClampNeg), upd w2 (nI (P (12 + i))).toNatClampNeg (a_placeOfSignal (a_secondOfGate (nI i).toNatClampNeg).toNatClampNeg), upd w3 (nI (P (12 + i))).toNatClampNeg (a_placeOfSignal (a_thirdOfGate (nI i).toNatClampNeg).toNatClampNeg)) ?_))⟩⟩⟩⟩
    rw [cf_at y2 (by omega) (hp _ (by omega)), cf_at y3 (by omega) (hp _ (by omega)), cf_at y4 (by omega) (hp _ (by omega)), nI_clamp (show P (12 + i) < 2 ^ 31 by omega)]
    intro g hg
    show upd tab (P (12 + i)) (cf_tb (K i) 8) (P (12 + g)) = _ ∧ upd w1 (P (12 + i)) (nI (P (A i))) (P (12 + g)) = _ ∧ upd w2 (P (12 + i)) (nI (P (B i))) (P (12 + g)) = _ ∧ upd w3 (P (12 + i)) (nI (P (if K i < 7 then A i else C i))) (P (12 + g)) = _
    by_cases e : g = i
    · subst e
      exact ⟨pk_us, pk_us, pk_us, pk_us⟩
    · have ne : P (12 + g) ≠ P (12 + i) := fun z => e (by have := hP.2 (12 + g) (12 + i) (by omega) (by omega) z; omega)
      rw [pk_un ne, pk_un ne, pk_un ne, pk_un ne]
      exact hs g (by omega)
theorem cf_lwX {post : SX → Prop} {f_gates : Int32} {f_hasDevice : Int32} {f_cells : Int32} {f_inputLevels : Int32} {f_registerLevels : Int32} {a_kindOfGate : Nat → Int32} {a_firstOfGate : Nat → Int32} {a_secondOfGate : Nat → Int32} {a_thirdOfGate : Nat → Int32} {a_nextOfRegister : Nat → Int32} {a_shownByOutput : Nat → Int32} {a_placeOfSignal : Nat → Int32} {a_tableOfCell : Nat → Int32} {a_firstWireOfCell : Nat → Int32} {a_secondWireOfCell : Nat → Int32} {a_thirdWireOfCell : Nat → Int32} {a_wireOfRegister : Nat → Int32} {a_wireOfOutput : Nat → Int32} (hn : n ≤ 20) (hw : ∀ j, j < 10 → w j < 12 + n)
    (h1 : ∀ r, r < 6 → a_nextOfRegister r = nI (w r)) (h2 : ∀ o, o < 4 → a_shownByOutput o = nI (w (6 + o)))
    (hp : ∀ s, s < 32 → a_placeOfSignal s = nI (P s))
    (h : ∀ wr wo : Nat → Int32, (∀ r, r < 6 → wr r = nI (P (w r))) → (∀ o, o < 4 → wo o = nI (P (w (6 + o)))) → post (f_gates, f_hasDevice, f_cells, f_inputLevels, f_registerLevels, a_kindOfGate, a_firstOfGate, a_secondOfGate, a_thirdOfGate, a_nextOfRegister, a_shownByOutput, a_placeOfSignal, a_tableOfCell, a_firstWireOfCell, a_secondWireOfCell, a_thirdWireOfCell, wr, wo)) :
    wpX_layWires post (f_gates, f_hasDevice, f_cells, f_inputLevels, f_registerLevels, a_kindOfGate, a_firstOfGate, a_secondOfGate, a_thirdOfGate, a_nextOfRegister, a_shownByOutput, a_placeOfSignal, a_tableOfCell, a_firstWireOfCell, a_secondWireOfCell, a_thirdWireOfCell, a_wireOfRegister, a_wireOfOutput) := by
  refine loop_0 (fun q i wr => wX_layWires_2 post f_gates f_hasDevice f_cells f_inputLevels f_registerLevels q (nI i) a_kindOfGate a_firstOfGate a_secondOfGate a_thirdOfGate a_nextOfRegister a_shownByOutput a_placeOfSignal a_tableOfCell a_firstWireOfCell a_secondWireOfCell a_thirdWireOfCell wr a_wireOfOutput) (fun i wr => ∀ r, r < i → wr r = nI (P (w r))) 6 a_wireOfRegister (fun j hj => absurd hj (Nat.not_lt_zero j)) ?_ ?_
  · intro q wr hr
    refine br_t (by decide) (loop_0 (fun q i wo => wX_layWires_33 post f_gates f_hasDevice f_cells f_inputLevels f_registerLevels q (nI i) a_kindOfGate a_firstOfGate a_secondOfGate a_thirdOfGate a_nextOfRegister a_shownByOutput a_placeOfSignal a_tableOfCell a_firstWireOfCell a_secondWireOfCell a_thirdWireOfCell wr wo) (fun i wo => ∀ o, o < i → wo o = nI (P (w (6 + o)))) 4 a_wireOfOutput (fun j hj => absurd hj (Nat.not_lt_zero j)) ?_ ?_)
    · intro q wo ho
      exact br_t (by decide) (h wr wo hr ho)
    · intro q i wo hi ho k
      have hj := hw (6 + i) (by omega)
      have y := cf_at (f := a_shownByOutput) (x := nI i) rfl (by omega) (h2 i hi)
      refine br_f (nI_ge (b := 4) hi (by decide)) ⟨vp_in_nI hi (by decide), cf_in y (by omega) (by decide), vp_in_nI hi (by decide), nm_e (nm_r (nI_1 i) (k _ ?_))⟩
      intro j hj2
      rw [cf_at y (by omega) (hp _ (by omega)), nI_clamp (show i < 2 ^ 31 by omega)]
      by_cases e : j = i
      · subst e
        exact pk_us
      · rw [pk_un e]
        exact ho j (by omega)
  · intro q i wr hi hr k
    have hj := hw i (by omega)
    have y := cf_at (f := a_nextOfRegister) (x := nI i) rfl (by omega) (h1 i hi)
    refine br_f (nI_ge (b := 6) hi (by decide)) ⟨vp_in_nI hi (by decide), cf_in y (by omega) (by decide), vp_in_nI hi (by decide), nm_e (nm_r (nI_1 i) (k _ ?_))⟩
    intro j hj2
    rw [cf_at y (by omega) (hp _ (by omega)), nI_clamp (show i < 2 ^ 31 by omega)]
    by_cases e : j = i
    · subst e
      exact pk_us
    · rw [pk_un e]
      exact hr j (by omega)
theorem cf_buX {post : Int32 → SX → Prop} {f_hasDevice : Int32} {f_cells : Int32} {f_inputLevels : Int32} {f_registerLevels : Int32} {a_kindOfGate : Nat → Int32} {a_firstOfGate : Nat → Int32} {a_secondOfGate : Nat → Int32} {a_thirdOfGate : Nat → Int32} {a_nextOfRegister : Nat → Int32} {a_shownByOutput : Nat → Int32} {a_placeOfSignal : Nat → Int32} {a_tableOfCell : Nat → Int32} {a_firstWireOfCell : Nat → Int32} {a_secondWireOfCell : Nat → Int32} {a_thirdWireOfCell : Nat → Int32} {a_wireOfRegister : Nat → Int32} {a_wireOfOutput : Nat → Int32} {c : Nat} (hc : c ≤ 1000) (hC : cf_C n K A B C w) (hX : cf_X n K A B C w a_kindOfGate a_firstOfGate a_secondOfGate a_thirdOfGate a_nextOfRegister a_shownByOutput)
    (h : ∀ plc tab w1 w2 w3 wr wo : Nat → Int32, cf_D n K A B C w (cf_pl c) plc tab w1 w2 w3 wr wo → post 1 (nI n, 1, nI n, f_inputLevels, 0, a_kindOfGate, a_firstOfGate, a_secondOfGate, a_thirdOfGate, a_nextOfRegister, a_shownByOutput, plc, tab, w1, w2, w3, wr, wo)) :
    wpX_build post (nI n, f_hasDevice, f_cells, f_inputLevels, f_registerLevels, a_kindOfGate, a_firstOfGate, a_secondOfGate, a_thirdOfGate, a_nextOfRegister, a_shownByOutput, a_placeOfSignal, a_tableOfCell, a_firstWireOfCell, a_secondWireOfCell, a_thirdWireOfCell, a_wireOfRegister, a_wireOfOutput) (nI c) := by
  refine br_f (nI_pos (by omega)) (br_t (nI_le (b := 1000) hc (by decide)) (cf_cpX hc ?_))
  intro plc hp
  dsimp only
  refine cf_pcX hC hX (cf_plP c) hp ?_
  intro tab w1 w2 w3 hG
  dsimp only
  refine cf_lwX hC.1 hC.2.2 hX.2.1 hX.2.2 hp ?_
  intro wr wo hr ho
  exact h plc tab w1 w2 w3 wr wo ⟨cf_plP c, hp, hG, hr, ho⟩
/-! drop -/
def cf_dw (s : Nat) (w : Nat → Nat) (j : Nat) : Nat := if w j = s then (if j < 6 then 6 + j else 0) else w j
theorem cf_fgX {post : SX → Prop} {f_gates : Int32} {f_hasDevice : Int32} {f_cells : Int32} {f_inputLevels : Int32} {f_registerLevels : Int32} {a_kindOfGate : Nat → Int32} {a_firstOfGate : Nat → Int32} {a_secondOfGate : Nat → Int32} {a_thirdOfGate : Nat → Int32} {a_nextOfRegister : Nat → Int32} {a_shownByOutput : Nat → Int32} {a_placeOfSignal : Nat → Int32} {a_tableOfCell : Nat → Int32} {a_firstWireOfCell : Nat → Int32} {a_secondWireOfCell : Nat → Int32} {a_thirdWireOfCell : Nat → Int32} {a_wireOfRegister : Nat → Int32} {a_wireOfOutput : Nat → Int32} {s : Nat} (hs : s < 32) (hw : ∀ j, j < 10 → w j < 32)
    (h1 : ∀ r, r < 6 → a_nextOfRegister r = nI (w r)) (h2 : ∀ o, o < 4 → a_shownByOutput o = nI (w (6 + o)))
    (h : ∀ nxt shn : Nat → Int32, (∀ r, r < 6 → nxt r = nI (cf_dw s w r)) → (∀ o, o < 4 → shn o = nI (cf_dw s w (6 + o))) → post (f_gates, f_hasDevice, f_cells, f_inputLevels, f_registerLevels, a_kindOfGate, a_firstOfGate, a_secondOfGate, a_thirdOfGate, nxt, shn, a_placeOfSignal, a_tableOfCell, a_firstWireOfCell, a_secondWireOfCell, a_thirdWireOfCell, a_wireOfRegister, a_wireOfOutput)) :
    wpX_forget post (f_gates, f_hasDevice, f_cells, f_inputLevels, f_registerLevels, a_kindOfGate, a_firstOfGate, a_secondOfGate, a_thirdOfGate, a_nextOfRegister, a_shownByOutput, a_placeOfSignal, a_tableOfCell, a_firstWireOfCell, a_secondWireOfCell, a_thirdWireOfCell, a_wireOfRegister, a_wireOfOutput) (nI s) := by
  refine loop_0 (fun q i nxt => wX_forget_2 post (nI s) f_gates f_hasDevice f_cells f_inputLevels f_registerLevels q (nI i) a_kindOfGate a_firstOfGate a_secondOfGate a_thirdOfGate nxt a_shownByOutput a_placeOfSignal a_tableOfCell a_firstWireOfCell a_secondWireOfCell a_thirdWireOfCell a_wireOfRegister a_wireOfOutput) (fun i nxt => ∀ r, r < 6 → nxt r = nI (if r < i then cf_dw s w r else w r)) 6 a_nextOfRegister ?_ ?_ ?_
  · intro r hr
    rw [if_neg (Nat.not_lt_zero r)]
    exact h1 r hr
  · intro q nxt hn
    have hn' : ∀ r, r < 6 → nxt r = nI (cf_dw s w r) := fun r hr => by rw [hn r hr, if_pos hr]
    refine br_t (by decide) (loop_0 (fun q i shn => wX_forget_36 post (nI s) f_gates f_hasDevice f_cells f_inputLevels f_registerLevels q (nI i) a_kindOfGate a_firstOfGate a_secondOfGate a_thirdOfGate nxt shn a_placeOfSignal a_tableOfCell a_firstWireOfCell a_secondWireOfCell a_thirdWireOfCell a_wireOfRegister a_wireOfOutput) (fun i shn => ∀ o, o < 4 → shn o = nI (if o < i then cf_dw s w (6 + o) else w (6 + o))) 4 a_shownByOutput ?_ ?_ ?_)
    · intro o ho
      rw [if_neg (Nat.not_lt_zero o)]
      exact h2 o ho
    · intro q shn ho
      exact br_t (by decide) (h nxt shn hn' (fun o h4 => by rw [ho o h4, if_pos h4]))
    · intro q i shn hi ho k
      have hj := hw (6 + i) (by omega)
      have ei := ho i hi
      rw [if_neg (Nat.lt_irrefl i)] at ei
      have y := cf_at (f := shn) (x := nI i) rfl (by omega) ei
      refine br_f (nI_ge (b := 4) hi (by decide)) ⟨vp_in_nI hi (by decide), ?_⟩
      rw [y, nI_eq (by omega) (by omega), nI_clamp (show i < 2 ^ 31 by omega)]
      refine br_c (fun e => ⟨vp_in_nI hi (by decide), nm_e (nm_r (nI_1 i) (k _ ?_))⟩) (fun e => nm_r (nI_1 i) (k _ ?_))
      · intro o h4
        by_cases eo : o = i
        · subst eo
          rw [pk_us, if_pos (Nat.lt_succ_self o)]
          unfold cf_dw
          rw [if_pos e, if_neg (by omega)]
          rfl
        · rw [pk_un eo, ho o h4]
          by_cases hoi : o < i
          · rw [if_pos hoi, if_pos (by omega)]
          · rw [if_neg hoi, if_neg (by omega)]
      · intro o h4
        rw [ho o h4]
        by_cases eo : o = i
        · subst eo
          rw [if_neg (Nat.lt_irrefl o), if_pos (Nat.lt_succ_self o)]
          unfold cf_dw
          rw [if_neg e]
        · by_cases hoi : o < i
          · rw [if_pos hoi, if_pos (by omega)]
          · rw [if_neg hoi, if_neg (by omega)]
  · intro q i nxt hi hn k
    have hj := hw i (by omega)
    have ei := hn i hi
    rw [if_neg (Nat.lt_irrefl i)] at ei
    have y := cf_at (f := nxt) (x := nI i) rfl (by omega) ei
    refine br_f (nI_ge (b := 6) hi (by decide)) ⟨vp_in_nI hi (by decide), ?_⟩
    rw [y, nI_eq (by omega) (by omega), nI_clamp (show i < 2 ^ 31 by omega)]
    refine br_c (fun e => ⟨vp_in_nI hi (by decide), nm_e (nm_r (nI_1 i) (k _ ?_))⟩) (fun e => nm_r (nI_1 i) (k _ ?_))
    · intro o h4
      by_cases eo : o = i
      · subst eo
        rw [pk_us, if_pos (Nat.lt_succ_self o), cf_6]
        unfold cf_dw
        rw [if_pos e, if_pos h4]
      · rw [pk_un eo, hn o h4]
        by_cases hoi : o < i
        · rw [if_pos hoi, if_pos (by omega)]
        · rw [if_neg hoi, if_neg (by omega)]
    · intro o h4
      rw [hn o h4]
      by_cases eo : o = i
      · subst eo
        rw [if_neg (Nat.lt_irrefl o), if_pos (Nat.lt_succ_self o)]
        unfold cf_dw
        rw [if_neg e]
      · by_cases hoi : o < i
        · rw [if_pos hoi, if_pos (by omega)]
        · rw [if_neg hoi, if_neg (by omega)]
end CFX
section CFY
variable {n : Nat} {K A B C w : Nat → Nat}
theorem cf_bu44 {post : Int32 → SY → Prop} {f_size : Int32} {f_builtSize : Int32} {f_isBuilt : Int32} {f_given : Int32} {f_state : Int32} {a_gates : Nat → Int32} {a_wires : Nat → Int32} {a_values : Nat → Int32} {a_seen : Nat → Int32}
    (h : ∀ wrs : Nat → Int32, (∀ j, j < 10 → wrs j = a_wires j) → (∀ j, j < 10 → wrs (10 + j) = a_wires j) → post 1 (f_size, f_size, 1, f_given, 0, a_gates, wrs, a_values, a_seen)) :
    ∃ n, wY_build_44 post f_size f_builtSize f_isBuilt f_given f_state n 0 a_gates a_wires a_values a_seen := by
  refine loop_0 (fun q i wrs => wY_build_44 post f_size f_builtSize f_isBuilt f_given f_state q (nI i) a_gates wrs a_values a_seen) (fun i wrs => (∀ j, j < 10 → wrs j = a_wires j) ∧ ∀ j, j < i → wrs (10 + j) = a_wires j) 10 a_wires ⟨fun _ _ => rfl, fun j hj => absurd hj (Nat.not_lt_zero j)⟩ (fun q wrs hs => br_t (by decide) (h wrs hs.1 hs.2)) ?_
  rintro q i wrs hi ⟨h1, h2⟩ k
  refine br_f (nI_ge (b := 10) hi (by decide)) ⟨vp_in_nI (by omega) (by decide), cf_in (cf_10 i) (by omega) (by decide), nm_e (nm_r (nI_1 i) (k _ ?_))⟩
  rw [nI_clamp (show i < 2 ^ 31 by omega), pk_cl (10 + i) (cf_10 i) (by omega)]
  refine ⟨fun j hj => ?_, fun j hj => ?_⟩
  · rw [pk_un (by omega)]
    exact h1 j hj
  · by_cases e : j = i
    · subst e
      rw [pk_us]
      exact h1 j hi
    · rw [pk_un (by omega)]
      exact h2 j (by omega)
theorem cf_bu15 {post : Int32 → SY → Prop} {f_size : Int32} {f_builtSize : Int32} {f_isBuilt : Int32} {f_given : Int32} {f_state : Int32} {a_gates : Nat → Int32} {a_wires : Nat → Int32} {a_values : Nat → Int32} {a_seen : Nat → Int32}
    (h : ∀ gts wrs : Nat → Int32, (∀ j, j < 80 → gts j = a_gates j) → (∀ j, j < 80 → gts (80 + j) = a_gates j) → (∀ j, j < 10 → wrs j = a_wires j) → (∀ j, j < 10 → wrs (10 + j) = a_wires j) → post 1 (f_size, f_size, 1, f_given, 0, gts, wrs, a_values, a_seen)) :
    ∃ n, wY_build_15 post f_size f_builtSize f_isBuilt f_given f_state n 0 a_gates a_wires a_values a_seen := by
  refine loop_0 (fun q i gts => wY_build_15 post f_size f_builtSize f_isBuilt f_given f_state q (nI i) gts a_wires a_values a_seen) (fun i gts => (∀ j, j < 80 → gts j = a_gates j) ∧ ∀ j, j < i → gts (80 + j) = a_gates j) 80 a_gates ⟨fun _ _ => rfl, fun j hj => absurd hj (Nat.not_lt_zero j)⟩ (fun q gts hs => br_t (by decide) (cf_bu44 (fun wrs h3 h4 => h gts wrs hs.1 hs.2 h3 h4))) ?_
  rintro q i gts hi ⟨h1, h2⟩ k
  refine br_f (nI_ge (b := 80) hi (by decide)) ⟨vp_in_nI (by omega) (by decide), cf_in (cf_80 i) (by omega) (by decide), nm_e (nm_r (nI_1 i) (k _ ?_))⟩
  rw [nI_clamp (show i < 2 ^ 31 by omega), pk_cl (80 + i) (cf_80 i) (by omega)]
  refine ⟨fun j hj => ?_, fun j hj => ?_⟩
  · rw [pk_un (by omega)]
    exact h1 j hj
  · by_cases e : j = i
    · subst e
      rw [pk_us]
      exact h1 j hi
    · rw [pk_un (by omega)]
      exact h2 j (by omega)
theorem cf_buY {post : Int32 → SY → Prop} {f_size : Int32} {f_builtSize : Int32} {f_isBuilt : Int32} {f_given : Int32} {f_state : Int32} {a_gates : Nat → Int32} {a_wires : Nat → Int32} {a_values : Nat → Int32} {a_seen : Nat → Int32} {c : Nat} (hc : c ≤ 1000) (hn : n ≤ 20) (hY : cf_Y 0 0 n K A B C w a_gates a_wires)
    (h : ∀ gts wrs : Nat → Int32, cf_Y 0 0 n K A B C w gts wrs → cf_Y 80 10 n K A B C w gts wrs → post 1 (f_size, f_size, 1, f_given, 0, gts, wrs, a_values, a_seen)) :
    wpY_build post (f_size, f_builtSize, f_isBuilt, f_given, f_state, a_gates, a_wires, a_values, a_seen) (nI c) := by
  refine br_f (nI_pos (by omega)) (br_t (nI_le (b := 1000) hc (by decide)) (cf_bu15 ?_))
  intro gts wrs g1 g2 w1 w2
  refine h gts wrs ⟨fun g hg => ?_, fun j hj => ?_⟩ ⟨fun g hg => ?_, fun j hj => ?_⟩
  · rw [g1 _ (by omega), g1 _ (by omega), g1 _ (by omega), g1 _ (by omega)]
    exact hY.1 g hg
  · rw [w1 _ (by omega)]
    exact hY.2 j hj
  · have := hY.1 g hg
    rw [Nat.zero_add] at this
    rw [Nat.add_assoc, Nat.add_assoc, Nat.add_assoc, g2 _ (by omega), g2 _ (by omega), g2 _ (by omega), g2 _ (by omega)]
    exact this
  · have := hY.2 j hj
    rw [Nat.zero_add] at this
    rw [w2 j hj]
    exact this
theorem cf_drY {post : Int32 → SY → Prop} {f_builtSize : Int32} {f_isBuilt : Int32} {f_given : Int32} {f_state : Int32} {a_gates : Nat → Int32} {a_wires : Nat → Int32} {a_values : Nat → Int32} {a_seen : Nat → Int32} {s : Nat} (hs : 12 + s < 32) (hw : ∀ j, j < 10 → w j < 32) (hW : ∀ j, j < 10 → a_wires j = nI (w j))
    (h : ∀ wrs : Nat → Int32, (∀ j, j < 10 → wrs j = nI (cf_dw (12 + s) w j)) → (∀ j, 10 ≤ j → wrs j = a_wires j) → post (nI (12 + s)) (nI s, f_builtSize, f_isBuilt, f_given, f_state, a_gates, wrs, a_values, a_seen)) :
    ∃ n, wY_drop_21 post (nI s) f_builtSize f_isBuilt f_given f_state n 0 a_gates a_wires a_values a_seen := by
  refine loop_0 (fun q i wrs => wY_drop_21 post (nI s) f_builtSize f_isBuilt f_given f_state q (nI i) a_gates wrs a_values a_seen) (fun i wrs => (∀ j, j < 10 → wrs j = nI (if j < i then cf_dw (12 + s) w j else w j)) ∧ ∀ j, 10 ≤ j → wrs j = a_wires j) 10 a_wires ⟨fun j hj => ?_, fun _ _ => rfl⟩ ?_ ?_
  · rw [if_neg (Nat.not_lt_zero j)]
    exact hW j hj
  · rintro q wrs ⟨h1, h2⟩
    refine br_t (by decide) ?_
    rw [cf_12]
    exact h wrs (fun j hj => by rw [h1 j hj, if_pos hj]) h2
  · rintro q i wrs hi ⟨h1, h2⟩ k
    have hj := hw i hi
    have ei := h1 i hi
    rw [if_neg (Nat.lt_irrefl i)] at ei
    have y := cf_at (f := wrs) (x := nI i) rfl (by omega) ei
    have hin : vp_in (nI i) 20 := vp_in_nI (by omega) (by decide)
    refine br_f (nI_ge (b := 10) hi (by decide)) ⟨hin, ?_⟩
    rw [y, cf_12, nI_eq (by omega) (by omega), nI_clamp (show i < 2 ^ 31 by omega)]
    have step : ∀ x : Int32, x = nI (cf_dw (12 + s) w i) → (∀ j, j < 10 → upd wrs i x j = nI (if j < i + 1 then cf_dw (12 + s) w j else w j)) ∧ ∀ j, 10 ≤ j → upd wrs i x j = a_wires j := by
      intro x hx
      refine ⟨fun j hj => ?_, fun j hj => ?_⟩
      · by_cases e : j = i
        · subst e
          rw [pk_us, if_pos (Nat.lt_succ_self j), hx]
        · rw [pk_un e, h1 j hj]
          by_cases hji : j < i
          · rw [if_pos hji, if_pos (by omega)]
          · rw [if_neg hji, if_neg (by omega)]
      · rw [pk_un (by omega)]
        exact h2 j hj
    refine br_c (fun e => ?_) (fun e => ⟨hin, hin, nm_e (nm_r (nI_1 i) (k _ (step _ ?_)))⟩)
    · by_cases h6 : i < 6
      · refine br_f (nI_ge (b := 6) h6 (by decide)) ⟨hin, nm_e (nm_r (nI_1 i) (k _ (step _ ?_)))⟩
        rw [cf_6]
        unfold cf_dw
        rw [if_pos e, if_pos h6]
      · refine br_t (nI_le (a := 6) (by omega) (by omega)) ⟨hin, nm_e (nm_r (nI_1 i) (k _ (step _ ?_)))⟩
        unfold cf_dw
        rw [if_pos e, if_neg h6]
        rfl
    · unfold cf_dw
      rw [if_neg e]
end CFY
