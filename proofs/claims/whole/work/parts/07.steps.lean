/-! gate, clock; single steps -/
def cf_sg (n : Nat) (x : Int32) : Prop := ∃ j, j < 12 + n ∧ x = nI j
theorem cf_10n : ¬ (1 : Int32) = 0 := by decide
section CFX
variable {f_hasDevice : Int32} {f_cells : Int32} {f_inputLevels : Int32} {f_registerLevels : Int32} {a_kindOfGate : Nat → Int32} {a_firstOfGate : Nat → Int32} {a_secondOfGate : Nat → Int32} {a_thirdOfGate : Nat → Int32} {a_nextOfRegister : Nat → Int32} {a_shownByOutput : Nat → Int32} {a_placeOfSignal : Nat → Int32} {a_tableOfCell : Nat → Int32} {a_firstWireOfCell : Nat → Int32} {a_secondWireOfCell : Nat → Int32} {a_thirdWireOfCell : Nat → Int32} {a_wireOfRegister : Nat → Int32} {a_wireOfOutput : Nat → Int32}
theorem cf_isX0 {post : Int32 → Prop} {n : Nat} {x : Int32} (hn : n ≤ 20) (h : ¬ cf_sg n x) (hp : post 0) : wpX_isSignal post (nI n, f_hasDevice, f_cells, f_inputLevels, f_registerLevels, a_kindOfGate, a_firstOfGate, a_secondOfGate, a_thirdOfGate, a_nextOfRegister, a_shownByOutput, a_placeOfSignal, a_tableOfCell, a_firstWireOfCell, a_secondWireOfCell, a_thirdWireOfCell, a_wireOfRegister, a_wireOfOutput) x := by
  by_cases h0 : x < 0
  · exact br_t h0 hp
  · rcases pk_ix x (n := 12 + n) (by omega) with h1 | h1 | h1
    · exact absurd h1 h0
    · refine br_f h0 (br_t ?_ hp)
      rw [cf_12]
      exact h1
    · exact absurd h1 h
theorem cf_isX1 {post : Int32 → Prop} {n : Nat} {x : Int32} (hn : n ≤ 20) (h : cf_sg n x) (hp : post 1) : wpX_isSignal post (nI n, f_hasDevice, f_cells, f_inputLevels, f_registerLevels, a_kindOfGate, a_firstOfGate, a_secondOfGate, a_thirdOfGate, a_nextOfRegister, a_shownByOutput, a_placeOfSignal, a_tableOfCell, a_firstWireOfCell, a_secondWireOfCell, a_thirdWireOfCell, a_wireOfRegister, a_wireOfOutput) x := by
  obtain ⟨j, hj, rfl⟩ := h
  refine br_f (nI_pos (by omega)) (br_f ?_ hp)
  rw [cf_12]
  exact nI_ge hj (by omega)
theorem cf_gtX {post : Int32 → SX → Prop} {n : Nat} (hf : n < 20) (x1 x2 x3 x4 x5 : Int32) (z : Int32) (hz : (x5 = 0 ∧ z = x2) ∨ (¬ x5 = 0 ∧ z = x4))
    (h : post (nI (12 + n)) (nI (n + 1), f_hasDevice, f_cells, f_inputLevels, f_registerLevels, upd a_kindOfGate n x1, upd a_firstOfGate n x2, upd a_secondOfGate n x3, upd a_thirdOfGate n z, a_nextOfRegister, a_shownByOutput, a_placeOfSignal, a_tableOfCell, a_firstWireOfCell, a_secondWireOfCell, a_thirdWireOfCell, a_wireOfRegister, a_wireOfOutput)) :
    wX_gate_57 post x1 x2 x3 x4 x5 (nI n) f_hasDevice f_cells f_inputLevels f_registerLevels a_kindOfGate a_firstOfGate a_secondOfGate a_thirdOfGate a_nextOfRegister a_shownByOutput a_placeOfSignal a_tableOfCell a_firstWireOfCell a_secondWireOfCell a_thirdWireOfCell a_wireOfRegister a_wireOfOutput := by
  have hin : vp_in (nI n) 20 := vp_in_nI hf (by decide)
  have ec : (nI n).toNatClampNeg = n := nI_clamp (by omega)
  have er : 12 + nI (n + 1) - 1 = nI (12 + n) := by
    rw [cf_12, show 12 + (n + 1) = (12 + n) + 1 by omega, nI_pred]
  refine br_t (nI_lt (b := 20) hf (by decide)) ⟨hin, nm_e ⟨hin, nm_e ⟨hin, nm_e ?_⟩⟩⟩
  rw [ec]
  rcases hz with ⟨h5, rfl⟩ | ⟨h5, rfl⟩
  · refine br_t h5 ⟨hin, nm_e (nm_r (nI_1 n) ?_)⟩
    rw [ec, er]
    exact h
  · refine br_f h5 ⟨hin, nm_e (nm_r (nI_1 n) ?_)⟩
    rw [ec, er]
    exact h
theorem cf_gtX2 {post : Int32 → SX → Prop} {n : Nat} (hf : ¬ n < 20) (hn : n ≤ 20) (x1 x2 x3 x4 x5 : Int32) (h : post (-2) (nI n, f_hasDevice, f_cells, f_inputLevels, f_registerLevels, a_kindOfGate, a_firstOfGate, a_secondOfGate, a_thirdOfGate, a_nextOfRegister, a_shownByOutput, a_placeOfSignal, a_tableOfCell, a_firstWireOfCell, a_secondWireOfCell, a_thirdWireOfCell, a_wireOfRegister, a_wireOfOutput)) :
    wX_gate_57 post x1 x2 x3 x4 x5 (nI n) f_hasDevice f_cells f_inputLevels f_registerLevels a_kindOfGate a_firstOfGate a_secondOfGate a_thirdOfGate a_nextOfRegister a_shownByOutput a_placeOfSignal a_tableOfCell a_firstWireOfCell a_secondWireOfCell a_thirdWireOfCell a_wireOfRegister a_wireOfOutput := br_f (nI_nlt (b := 20) (by omega) (by omega)) h
end CFX
section CFY
variable {f_builtSize : Int32} {f_isBuilt : Int32} {f_given : Int32} {f_state : Int32} {a_gates : Nat → Int32} {a_wires : Nat → Int32} {a_values : Nat → Int32} {a_seen : Nat → Int32}
theorem cf_isY0 {post : Int32 → Prop} {n : Nat} {x : Int32} (hn : n ≤ 20) (h : ¬ cf_sg n x) (hp : post 0) : wpY_signal post (nI n, f_builtSize, f_isBuilt, f_given, f_state, a_gates, a_wires, a_values, a_seen) x := by
  by_cases h0 : x < 0
  · exact br_t h0 hp
  · rcases pk_ix x (n := 12 + n) (by omega) with h1 | h1 | h1
    · exact absurd h1 h0
    · refine br_f h0 (br_t ?_ hp)
      rw [cf_12]
      exact h1
    · exact absurd h1 h
theorem cf_isY1 {post : Int32 → Prop} {n : Nat} {x : Int32} (hn : n ≤ 20) (h : cf_sg n x) (hp : post 1) : wpY_signal post (nI n, f_builtSize, f_isBuilt, f_given, f_state, a_gates, a_wires, a_values, a_seen) x := by
  obtain ⟨j, hj, rfl⟩ := h
  refine br_f (nI_pos (by omega)) (br_f ?_ hp)
  rw [cf_12]
  exact nI_ge hj (by omega)
theorem cf_gtY {post : Int32 → SY → Prop} {n : Nat} (hf : n < 20) (x1 x2 x3 x4 : Int32) (z : Int32) (hz : (x1 < 7 ∧ z = 0) ∨ (¬ x1 < 7 ∧ z = x4))
    (h : post (nI (12 + n)) (nI (n + 1), f_builtSize, f_isBuilt, f_given, f_state, upd (upd (upd (upd a_gates (4 * n) x1) (4 * n + 1) x2) (4 * n + 2) x3) (4 * n + 3) z, a_wires, a_values, a_seen)) :
    wY_gate_43 post x1 x2 x3 x4 (nI n) f_builtSize f_isBuilt f_given f_state a_gates a_wires a_values a_seen := by
  have e0 : 4 * nI n = nI (4 * n) := cf_4m n
  have e1 : 4 * nI n + 1 = nI (4 * n + 1) := by rw [e0, cf_a1]
  have e2 : 4 * nI n + 2 = nI (4 * n + 2) := by rw [e0, cf_a2]
  have e3 : 4 * nI n + 3 = nI (4 * n + 3) := by rw [e0, cf_a3]
  have er : 11 + nI (n + 1) = nI (12 + n) := by
    have : (11 : Int32) + nI (n + 1) = nI (11 + (n + 1)) := nI_add 11 (n + 1)
    rw [this, show 11 + (n + 1) = 12 + n by omega]
  refine br_t (nI_lt (b := 20) hf (by decide)) ⟨cf_in e0 (by omega) (by decide), nm_e ⟨cf_in e1 (by omega) (by decide), nm_e ⟨cf_in e2 (by omega) (by decide), nm_e ?_⟩⟩⟩
  rw [pk_cl _ e0 (by omega), pk_cl _ e1 (by omega), pk_cl _ e2 (by omega)]
  rcases hz with ⟨h5, rfl⟩ | ⟨h5, rfl⟩
  · refine br_t h5 ⟨cf_in e3 (by omega) (by decide), nm_e (nm_r (nI_1 n) ?_)⟩
    rw [pk_cl _ e3 (by omega), er]
    exact h
  · refine br_f h5 ⟨cf_in e3 (by omega) (by decide), nm_e (nm_r (nI_1 n) ?_)⟩
    rw [pk_cl _ e3 (by omega), er]
    exact h
theorem cf_gtY2 {post : Int32 → SY → Prop} {n : Nat} (hf : ¬ n < 20) (hn : n ≤ 20) (x1 x2 x3 x4 : Int32) (h : post (-2) (nI n, f_builtSize, f_isBuilt, f_given, f_state, a_gates, a_wires, a_values, a_seen)) :
    wY_gate_43 post x1 x2 x3 x4 (nI n) f_builtSize f_isBuilt f_given f_state a_gates a_wires a_values a_seen := br_f (nI_nlt (b := 20) (by omega) (by omega)) h
end CFY
section CFC
variable {m : Nat} {K A B C w P : Nat → Nat}
theorem cf_ckX {post : Int32 → SX → Prop} {f_gates : Int32} {f_hasDevice : Int32} {f_inputLevels : Int32} {a_kindOfGate : Nat → Int32} {a_firstOfGate : Nat → Int32} {a_secondOfGate : Nat → Int32} {a_thirdOfGate : Nat → Int32} {a_nextOfRegister : Nat → Int32} {a_shownByOutput : Nat → Int32} {a_placeOfSignal : Nat → Int32} {a_tableOfCell : Nat → Int32} {a_firstWireOfCell : Nat → Int32} {a_secondWireOfCell : Nat → Int32} {a_thirdWireOfCell : Nat → Int32} {a_wireOfRegister : Nat → Int32} {a_wireOfOutput : Nat → Int32} (hd : ¬ f_hasDevice = 0) (hC : cf_C m K A B C w) (hD : cf_D m K A B C w P a_placeOfSignal a_tableOfCell a_firstWireOfCell a_secondWireOfCell a_thirdWireOfCell a_wireOfRegister a_wireOfOutput)
    (R c : Nat) (hc : c ≤ 20) (h : post (nI (cf_it (cf_st K A B C w f_inputLevels) R c)) (f_gates, f_hasDevice, nI m, f_inputLevels, nI (cf_it (cf_st K A B C w f_inputLevels) R c), a_kindOfGate, a_firstOfGate, a_secondOfGate, a_thirdOfGate, a_nextOfRegister, a_shownByOutput, a_placeOfSignal, a_tableOfCell, a_firstWireOfCell, a_secondWireOfCell, a_thirdWireOfCell, a_wireOfRegister, a_wireOfOutput)) :
    wpX_clock post (f_gates, f_hasDevice, nI m, f_inputLevels, nI R, a_kindOfGate, a_firstOfGate, a_secondOfGate, a_thirdOfGate, a_nextOfRegister, a_shownByOutput, a_placeOfSignal, a_tableOfCell, a_firstWireOfCell, a_secondWireOfCell, a_thirdWireOfCell, a_wireOfRegister, a_wireOfOutput) (nI c) := by
  refine br_f hd (br_f (nI_pos (by omega)) (br_t (nI_le (b := 20) hc (by decide)) ?_))
  refine loop_0 (fun n i (_ : Unit) => wX_clock_21 post (nI c) f_gates f_hasDevice (nI m) f_inputLevels a_kindOfGate a_firstOfGate a_secondOfGate a_thirdOfGate a_nextOfRegister a_shownByOutput a_placeOfSignal a_tableOfCell a_firstWireOfCell a_secondWireOfCell a_thirdWireOfCell a_wireOfRegister a_wireOfOutput n (nI i) (nI (cf_it (cf_st K A B C w f_inputLevels) R i))) (fun _ _ => True) c () trivial (fun n _ _ => br_t (nI_le (Nat.le_refl c) (by omega)) h) ?_
  intro n i _ hi _ k
  exact br_f (nI_ge hi (by omega)) (cf_afX hC hD _ (nm_r (nI_1 i) (k () trivial)))
theorem cf_ckY {post : Int32 → SY → Prop} {f_size : Int32} {f_isBuilt : Int32} {f_given : Int32} {a_gates : Nat → Int32} {a_wires : Nat → Int32} {a_values : Nat → Int32} {a_seen : Nat → Int32} (hb : ¬ f_isBuilt = 0) (hC : cf_C m K A B C w) (hY : cf_Y 80 10 m K A B C w a_gates a_wires)
    (R c : Nat) (hc : c ≤ 20) (h : ∀ val : Nat → Int32, post (nI (cf_it (cf_st K A B C w f_given) R c)) (f_size, nI m, f_isBuilt, f_given, nI (cf_it (cf_st K A B C w f_given) R c), a_gates, a_wires, val, a_seen)) :
    wpY_clock post (f_size, nI m, f_isBuilt, f_given, nI R, a_gates, a_wires, a_values, a_seen) (nI c) := by
  refine br_f hb (br_f (nI_pos (by omega)) (br_t (nI_le (b := 20) hc (by decide)) ?_))
  refine loop_0 (fun n i val => wY_clock_21 post (nI c) n (nI i) f_size (nI m) f_isBuilt f_given (nI (cf_it (cf_st K A B C w f_given) R i)) a_gates a_wires val a_seen) (fun _ _ => True) c a_values trivial (fun n val _ => br_t (nI_le (Nat.le_refl c) (by omega)) (h val)) ?_
  intro n i val hi _ k
  refine br_f (nI_ge hi (by omega)) (cf_foY hC hY _ ?_)
  intro val'
  exact nm_r (nI_1 i) (k val' trivial)
end CFC
theorem cf_wbX {post : Int32 → Prop} {x i v : Int32} (h : post ((x &&& (((1 : Int32) <<< (i &&& 31)) ^^^ (-1))) ||| (v <<< (i &&& 31)))) : wpX_withBit post x i v := h
theorem cf_lvX0 {post : Int32 → Prop} {x : Int32} (h0 : ¬ x = 0) (h1 : ¬ x = 1) (h : post 0) : wpX_isLevel post x := br_f h0 (br_f h1 h)
theorem cf_lvX1 {post : Int32 → Prop} {x : Int32} (hx : x = 0 ∨ x = 1) (h : post 1) : wpX_isLevel post x := by
  rcases hx with rfl | rfl
  · exact br_t rfl h
  · exact br_f (by decide) (br_t rfl h)
theorem cf_rgX1 {post : Int32 → Prop} {j : Nat} (hj : j < 6) (h : post 1) : wpX_isRegister post (nI j) := br_f (nI_pos (by omega)) (br_f (nI_ge (b := 6) hj (by decide)) h)
theorem cf_rgX0 {post : Int32 → Prop} {x : Int32} (hx : x < 0 ∨ 6 ≤ x) (h : post 0) : wpX_isRegister post x := by
  by_cases h0 : x < 0
  · exact br_t h0 h
  · rcases hx with h1 | h1
    · exact absurd h1 h0
    · exact br_f h0 (br_t h1 h)
theorem cf_lev {x : Int32} (h0 : ¬ x = 0) (h1 : ¬ x = 1) : x < 0 ∨ (¬ x < 0 ∧ ¬ x ≤ 1) := by
  by_cases hx : x < 0
  · exact Or.inl hx
  · refine Or.inr ⟨hx, fun h2 => ?_⟩
    obtain ⟨j, hj, rfl⟩ := nI_of2 (x := x) (M := 1) (n := 1) (by decide) hx h2
    have : j = 0 ∨ j = 1 := by omega
    rcases this with rfl | rfl
    · exact h0 rfl
    · exact h1 rfl
theorem cf_levOk {x : Int32} (hx : x = 0 ∨ x = 1) : ¬ x < 0 ∧ x ≤ 1 := by
  rcases hx with rfl | rfl
  · decide
  · decide
theorem cf_l6 {x : Int32} (h : 6 ≤ x) : ¬ x < 0 ∧ 5 < x := by
  have a6 : (6 : Int32).toInt = 6 := by decide
  have a5 : (5 : Int32).toInt = 5 := by decide
  have a0 : (0 : Int32).toInt = 0 := by decide
  rw [Int32.le_iff_toInt_le, a6] at h
  rw [Int32.lt_iff_toInt_lt, Int32.lt_iff_toInt_lt, a5, a0]
  omega
theorem cf_l4 {x : Int32} (h : 4 ≤ x) : ¬ x < 0 ∧ 3 < x := by
  have a6 : (4 : Int32).toInt = 4 := by decide
  have a5 : (3 : Int32).toInt = 3 := by decide
  have a0 : (0 : Int32).toInt = 0 := by decide
  rw [Int32.le_iff_toInt_le, a6] at h
  rw [Int32.lt_iff_toInt_lt, Int32.lt_iff_toInt_lt, a5, a0]
  omega
theorem cf_wb64 : ∀ R, R < 64 → ∀ r, r < 6 → ∀ v, v < 2 → ((nI R &&& (((1 : Int32) <<< (nI r &&& 31)) ^^^ (-1))) ||| (nI v <<< (nI r &&& 31))).toBitVec.toNat < 64 := by decide +kernel
theorem cf_ofB (x : Int32) : x = nI x.toBitVec.toNat := Int32.toBitVec_inj.mp (by show _ = BitVec.ofNat 32 _; simp)
/-! the relation -/
def cf_Ci (gates size : Int32) (kind fst snd thd nxt shn gts wrs : Nat → Int32) : Prop :=
  ∃ (n : Nat) (K A B C w : Nat → Nat), gates = nI n ∧ size = nI n ∧ cf_C n K A B C w ∧ cf_X n K A B C w kind fst snd thd nxt shn ∧ cf_Y 0 0 n K A B C w gts wrs
def cf_De (has cells reg : Int32) (plc tab w1 w2 w3 wr wo : Nat → Int32) (bs st : Int32) (gts wrs : Nat → Int32) : Prop :=
  has = 0 ∨ (has = 1 ∧ ∃ (m : Nat) (K A B C w P : Nat → Nat) (R : Nat), cells = nI m ∧ bs = nI m ∧ reg = nI R ∧ st = nI R ∧ R < 64 ∧ cf_C m K A B C w ∧ cf_D m K A B C w P plc tab w1 w2 w3 wr wo ∧ cf_Y 80 10 m K A B C w gts wrs)
def i_Rel (k : Nat) (u : SX) (v : SY) : Prop := match u, v with
  | (f_gates, f_hasDevice, f_cells, f_inputLevels, f_registerLevels, a_kindOfGate, a_firstOfGate, a_secondOfGate, a_thirdOfGate, a_nextOfRegister, a_shownByOutput, a_placeOfSignal, a_tableOfCell, a_firstWireOfCell, a_secondWireOfCell, a_thirdWireOfCell, a_wireOfRegister, a_wireOfOutput), (f_size, f_builtSize, f_isBuilt, f_given, f_state, a_gates, a_wires, a_values, a_seen) => f_given = f_inputLevels ∧ f_isBuilt = f_hasDevice ∧ cf_Ci f_gates f_size a_kindOfGate a_firstOfGate a_secondOfGate a_thirdOfGate a_nextOfRegister a_shownByOutput a_gates a_wires ∧ cf_De f_hasDevice f_cells f_registerLevels a_placeOfSignal a_tableOfCell a_firstWireOfCell a_secondWireOfCell a_thirdWireOfCell a_wireOfRegister a_wireOfOutput f_builtSize f_state a_gates a_wires
theorem cf_Yc {o4 ow n : Nat} {K A B C w : Nat → Nat} {gts wrs gts' wrs' : Nat → Int32} (hg : ∀ j, o4 ≤ j → gts' j = gts j) (hw : ∀ j, ow ≤ j → wrs' j = wrs j) (h : cf_Y o4 ow n K A B C w gts wrs) : cf_Y o4 ow n K A B C w gts' wrs' := by
  refine ⟨fun g hn => ?_, fun j hj => ?_⟩
  · rw [hg _ (by omega), hg _ (by omega), hg _ (by omega), hg _ (by omega)]
    exact h.1 g hn
  · rw [hw _ (by omega)]
    exact h.2 j hj
theorem cf_DeC {has cells reg : Int32} {plc tab w1 w2 w3 wr wo : Nat → Int32} {bs st : Int32} {gts wrs gts' wrs' : Nat → Int32} (hg : ∀ j, 80 ≤ j → gts' j = gts j) (hw : ∀ j, 10 ≤ j → wrs' j = wrs j)
    (h : cf_De has cells reg plc tab w1 w2 w3 wr wo bs st gts wrs) : cf_De has cells reg plc tab w1 w2 w3 wr wo bs st gts' wrs' := by
  rcases h with h | ⟨h1, m, K, A, B, C, w, P, R, a1, a2, a3, a4, a5, a6, a7, a8⟩
  · exact Or.inl h
  · exact Or.inr ⟨h1, m, K, A, B, C, w, P, R, a1, a2, a3, a4, a5, a6, a7, cf_Yc hg hw a8⟩
theorem cf_add {n : Nat} {K A B C w : Nat → Nat} {kind fst snd thd nxt shn gts wrs : Nat → Int32} (hC : cf_C n K A B C w) (hX : cf_X n K A B C w kind fst snd thd nxt shn) (hY : cf_Y 0 0 n K A B C w gts wrs)
    (hf : n < 20) {q a b c : Nat} (hq : q < 10) (ha : a < 12 + n) (hb : b < 12 + n) (hc : c < 12 + n) :
    cf_Ci (nI (n + 1)) (nI (n + 1)) (upd kind n (nI q)) (upd fst n (nI a)) (upd snd n (nI b)) (upd thd n (nI (if q < 7 then a else c))) nxt shn (upd (upd (upd (upd gts (4 * n) (nI q)) (4 * n + 1) (nI a)) (4 * n + 2) (nI b)) (4 * n + 3) (nI c)) wrs := by
  refine ⟨n + 1, fun g => if g = n then q else K g, fun g => if g = n then a else A g, fun g => if g = n then b else B g, fun g => if g = n then c else C g, w, rfl, rfl, ⟨by omega, ?_, ?_⟩, ⟨?_, hX.2.1, hX.2.2⟩, ⟨?_, hY.2⟩⟩
  · intro g hg
    dsimp only
    by_cases e : g = n
    · subst e
      rw [if_pos rfl, if_pos rfl, if_pos rfl, if_pos rfl]
      exact ⟨hq, ha, hb, hc⟩
    · rw [if_neg e, if_neg e, if_neg e, if_neg e]
      exact hC.2.1 g (by omega)
  · intro j hj
    have := hC.2.2 j hj
    omega
  · intro g hg
    dsimp only
    by_cases e : g = n
    · subst e
      simp only [↓reduceIte]
      exact ⟨pk_us, pk_us, pk_us, pk_us⟩
    · simp only [if_neg e]
      rw [pk_un e, pk_un e, pk_un e, pk_un e]
      exact hX.1 g (by omega)
  · intro g hg
    dsimp only
    rw [Nat.zero_add]
    by_cases e : g = n
    · subst e
      rw [if_pos rfl, if_pos rfl, if_pos rfl, if_pos rfl]
      refine ⟨?_, ?_, ?_, pk_us⟩
      · rw [pk_un (by omega), pk_un (by omega), pk_un (by omega), pk_us]
      · rw [pk_un (by omega), pk_un (by omega), pk_us]
      · rw [pk_un (by omega), pk_us]
    · rw [if_neg e, if_neg e, if_neg e, if_neg e]
      have := hY.1 g (by omega)
      rw [Nat.zero_add] at this
      obtain ⟨t0, t1, t2, t3⟩ := this
      refine ⟨?_, ?_, ?_, ?_⟩
      · rw [pk_un (by omega), pk_un (by omega), pk_un (by omega), pk_un (by omega)]
        exact t0
      · rw [pk_un (by omega), pk_un (by omega), pk_un (by omega), pk_un (by omega)]
        exact t1
      · rw [pk_un (by omega), pk_un (by omega), pk_un (by omega), pk_un (by omega)]
        exact t2
      · rw [pk_un (by omega), pk_un (by omega), pk_un (by omega), pk_un (by omega)]
        exact t3
theorem cf_addE {n : Nat} (hf : n < 20) (gts : Nat → Int32) (a b c d : Int32) : ∀ j, 80 ≤ j → upd (upd (upd (upd gts (4 * n) a) (4 * n + 1) b) (4 * n + 2) c) (4 * n + 3) d j = gts j := by
  intro j hj
  rw [pk_un (by omega), pk_un (by omega), pk_un (by omega), pk_un (by omega)]
theorem cf_wire {n : Nat} {K A B C w : Nat → Nat} (hC : cf_C n K A B C w) {a s : Nat} (hs : s < 12 + n) : cf_C n K A B C (fun j => if j = a then s else w j) := by
  refine ⟨hC.1, hC.2.1, fun j hj => ?_⟩
  dsimp only
  split
  · exact hs
  · exact hC.2.2 j hj
theorem cf_wires {n : Nat} {K A B C w : Nat → Nat} {gts wrs : Nat → Int32} (hY : cf_Y 0 0 n K A B C w gts wrs) {a s : Nat} : cf_Y 0 0 n K A B C (fun j => if j = a then s else w j) gts (upd wrs a (nI s)) := by
  refine ⟨hY.1, fun j hj => ?_⟩
  have := hY.2 j hj
  rw [Nat.zero_add] at this ⊢
  by_cases e : j = a
  · subst e
    rw [pk_us]
    dsimp only
    rw [if_pos rfl]
  · rw [pk_un e]
    dsimp only
    rw [if_neg e]
    exact this
theorem cf_wireE {a : Nat} (ha : a < 10) (wrs : Nat → Int32) (x : Int32) : ∀ j, 10 ≤ j → upd wrs a x j = wrs j := fun j hj => pk_un (by omega)
theorem cf_dwC {n : Nat} {K A B C w : Nat → Nat} (hC : cf_C (n + 1) K A B C w) : cf_C n K A B C (cf_dw (12 + n) w) := by
  refine ⟨by have := hC.1; omega, fun g hg => hC.2.1 g (by omega), fun j hj => ?_⟩
  have := hC.2.2 j hj
  unfold cf_dw
  split
  · split <;> omega
  · omega
