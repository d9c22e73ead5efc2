/-! tail and period -/
theorem cf_nE {a b : Nat} (ha : a < 64) (hb : b < 64) : nI a = nI b ↔ a = b := nI_eq (by omega) (by omega)
section CFX
variable {m : Nat} {K A B C w P : Nat → Nat}
variable {f_gates : Int32} {f_hasDevice : Int32} {f_inputLevels : Int32} {f_registerLevels : Int32} {a_kindOfGate : Nat → Int32} {a_firstOfGate : Nat → Int32} {a_secondOfGate : Nat → Int32} {a_thirdOfGate : Nat → Int32} {a_nextOfRegister : Nat → Int32} {a_shownByOutput : Nat → Int32} {a_placeOfSignal : Nat → Int32} {a_tableOfCell : Nat → Int32} {a_firstWireOfCell : Nat → Int32} {a_secondWireOfCell : Nat → Int32} {a_thirdWireOfCell : Nat → Int32} {a_wireOfRegister : Nat → Int32} {a_wireOfOutput : Nat → Int32}
theorem cf_leX {post : Int32 → Prop} (hC : cf_C m K A B C w) (hD : cf_D m K A B C w P a_placeOfSignal a_tableOfCell a_firstWireOfCell a_secondWireOfCell a_thirdWireOfCell a_wireOfRegister a_wireOfOutput)
    {R t e : Nat} (hR : R < 64) (hl : cf_Lo (cf_st K A B C w f_inputLevels) R t e) (h : post (nI (cf_it (cf_st K A B C w f_inputLevels) R e))) :
    wpX_loopEntry post (f_gates, f_hasDevice, nI m, f_inputLevels, nI R, a_kindOfGate, a_firstOfGate, a_secondOfGate, a_thirdOfGate, a_nextOfRegister, a_shownByOutput, a_placeOfSignal, a_tableOfCell, a_firstWireOfCell, a_secondWireOfCell, a_thirdWireOfCell, a_wireOfRegister, a_wireOfOutput) := by
  obtain ⟨h1, h2, h3, h4⟩ := hl
  have h64 := cf_it64 (cf_st64 K A B C w f_inputLevels) hR
  refine loop_0 (fun n i met => wX_loopEntry_10 post f_gates f_hasDevice (nI m) f_inputLevels (nI R) a_kindOfGate a_firstOfGate a_secondOfGate a_thirdOfGate a_nextOfRegister a_shownByOutput a_placeOfSignal a_tableOfCell a_firstWireOfCell a_secondWireOfCell a_thirdWireOfCell a_wireOfRegister a_wireOfOutput n met (nI (cf_it (cf_st K A B C w f_inputLevels) R i)) (nI i)) (fun i met => ∀ k, k < 64 → (cf_bl met k = true ↔ ∃ j, j < i ∧ cf_it (cf_st K A B C w f_inputLevels) R j = k)) e 0 ?_ ?_ ?_
  · intro k hk
    constructor
    · intro z
      have : cf_bl 0 k = false := BitVec.getLsbD_zero
      rw [this] at z
      exact absurd z (by decide)
    · rintro ⟨j, hj, -⟩
      exact absurd hj (Nat.not_lt_zero j)
  · intro n met hM
    by_cases e64 : e = 64
    · subst e64
      exact br_t (by decide) h
    · refine br_f (nI_ge (b := 64) (by omega) (by decide)) (nm_e (br_f ?_ h))
      rw [cf_blA met (h64 e)]
      have : cf_bl met (cf_it (cf_st K A B C w f_inputLevels) R e) = true := (hM _ (h64 e)).mpr ⟨t, h1, h3.symm⟩
      rw [this]
      decide
  · intro n i met hi hM k
    refine br_f (nI_ge (b := 64) (by omega) (by decide)) (nm_e (br_t ?_ (nm_e (cf_afX hC hD _ (nm_r (nI_1 i) (k _ ?_))))))
    · rw [cf_blA met (h64 i)]
      cases hb : cf_bl met (cf_it (cf_st K A B C w f_inputLevels) R i) with
      | false => rfl
      | true =>
        obtain ⟨j, hj, hz⟩ := (hM _ (h64 i)).mp hb
        exact absurd hz (h4 j i hj hi)
    · intro q hq
      rw [cf_blO met (h64 i) hq, Bool.or_eq_true, decide_eq_true_eq, hM q hq]
      constructor
      · rintro (⟨j, hj, hz⟩ | hz)
        · exact ⟨j, by omega, hz⟩
        · exact ⟨i, by omega, hz⟩
      · rintro ⟨j, hj, hz⟩
        by_cases ej : j = i
        · subst ej
          exact Or.inr hz
        · exact Or.inl ⟨j, by omega, hz⟩
theorem cf_cbX {post : Int32 → Prop} (hC : cf_C m K A B C w) (hD : cf_D m K A B C w P a_placeOfSignal a_tableOfCell a_firstWireOfCell a_secondWireOfCell a_thirdWireOfCell a_wireOfRegister a_wireOfOutput)
    {a b c : Nat} (hb : b < 64) (hc : c < 64) (he : cf_it (cf_st K A B C w f_inputLevels) a (c + 1) = b) (hn : ∀ j, j < c → cf_it (cf_st K A B C w f_inputLevels) a (j + 1) ≠ b)
    (h : post (nI (c + 1))) : wpX_cyclesBetween post (f_gates, f_hasDevice, nI m, f_inputLevels, f_registerLevels, a_kindOfGate, a_firstOfGate, a_secondOfGate, a_thirdOfGate, a_nextOfRegister, a_shownByOutput, a_placeOfSignal, a_tableOfCell, a_firstWireOfCell, a_secondWireOfCell, a_thirdWireOfCell, a_wireOfRegister, a_wireOfOutput) (nI a) (nI b) := by
  refine cf_afX hC hD a ?_
  refine loop_0 (fun n i (_ : Unit) => wX_cyclesBetween_9 post (nI b) f_gates f_hasDevice (nI m) f_inputLevels f_registerLevels a_kindOfGate a_firstOfGate a_secondOfGate a_thirdOfGate a_nextOfRegister a_shownByOutput a_placeOfSignal a_tableOfCell a_firstWireOfCell a_secondWireOfCell a_thirdWireOfCell a_wireOfRegister a_wireOfOutput n (nI (i + 1)) (nI (cf_it (cf_st K A B C w f_inputLevels) a (i + 1)))) (fun _ _ => True) c () trivial ?_ ?_
  · intro n _ _
    exact br_t (by rw [he]) h
  · intro n i _ hi _ k
    have h64 : cf_it (cf_st K A B C w f_inputLevels) a (i + 1) < 64 := cf_st64 _ _ _ _ _ _ _
    refine br_f (fun z => hn i hi ((cf_nE h64 hb).mp z)) (br_f (nI_ge (b := 64) (by omega) (by decide)) (cf_afX hC hD _ (nm_r (nI_1 (i + 1)) (k () trivial))))
theorem cf_taX {post : Int32 → Prop} (hd : ¬ f_hasDevice = 0) (hC : cf_C m K A B C w) (hD : cf_D m K A B C w P a_placeOfSignal a_tableOfCell a_firstWireOfCell a_secondWireOfCell a_thirdWireOfCell a_wireOfRegister a_wireOfOutput)
    {R t e : Nat} (hR : R < 64) (hl : cf_Lo (cf_st K A B C w f_inputLevels) R t e) (h : post (nI t)) :
    wpX_tail post (f_gates, f_hasDevice, nI m, f_inputLevels, nI R, a_kindOfGate, a_firstOfGate, a_secondOfGate, a_thirdOfGate, a_nextOfRegister, a_shownByOutput, a_placeOfSignal, a_tableOfCell, a_firstWireOfCell, a_secondWireOfCell, a_thirdWireOfCell, a_wireOfRegister, a_wireOfOutput) := by
  have h64 := cf_it64 (cf_st64 K A B C w f_inputLevels) hR
  refine br_f hd (cf_leX hC hD hR hl ?_)
  obtain ⟨h1, h2, h3, h4⟩ := hl
  rw [cf_nE hR (h64 e)]
  by_cases t0 : t = 0
  · subst t0
    exact br_t h3.symm h
  · have hne : ¬ R = cf_it (cf_st K A B C w f_inputLevels) R e := by
      rw [h3]
      exact h4 0 t (by omega) h1
    obtain ⟨c, rfl⟩ : ∃ c, t = c + 1 := ⟨t - 1, by omega⟩
    refine br_f hne (cf_cbX hC hD (c := c) (h64 e) (by omega) h3.symm ?_ h)
    intro j hj
    rw [h3]
    exact h4 (j + 1) (c + 1) (by omega) h1
theorem cf_peX {post : Int32 → Prop} (hd : ¬ f_hasDevice = 0) (hC : cf_C m K A B C w) (hD : cf_D m K A B C w P a_placeOfSignal a_tableOfCell a_firstWireOfCell a_secondWireOfCell a_thirdWireOfCell a_wireOfRegister a_wireOfOutput)
    {R t e : Nat} (hR : R < 64) (hl : cf_Lo (cf_st K A B C w f_inputLevels) R t e) (h : post (nI (e - t))) :
    wpX_period post (f_gates, f_hasDevice, nI m, f_inputLevels, nI R, a_kindOfGate, a_firstOfGate, a_secondOfGate, a_thirdOfGate, a_nextOfRegister, a_shownByOutput, a_placeOfSignal, a_tableOfCell, a_firstWireOfCell, a_secondWireOfCell, a_thirdWireOfCell, a_wireOfRegister, a_wireOfOutput) := by
  have h64 := cf_it64 (cf_st64 K A B C w f_inputLevels) hR
  refine br_f hd (cf_leX hC hD hR hl ?_)
  obtain ⟨h1, h2, h3, h4⟩ := hl
  obtain ⟨c, hc⟩ : ∃ c, e - t = c + 1 := ⟨e - t - 1, by omega⟩
  rw [hc] at h
  refine cf_cbX hC hD (c := c) (h64 e) (by omega) ?_ ?_ h
  · rw [h3, cf_itA, show t + (c + 1) = e by omega, h3]
  · intro j hj
    rw [h3, cf_itA]
    exact (h4 t (t + (j + 1)) (by omega) (by omega)).symm
end CFX
section CFY
variable {m : Nat} {K A B C w : Nat → Nat}
variable {f_size : Int32} {f_isBuilt : Int32} {f_given : Int32} {f_state : Int32} {a_gates : Nat → Int32} {a_wires : Nat → Int32} {a_values : Nat → Int32} {a_seen : Nat → Int32}
theorem cf_ci28 {post : Int32 → SY → Prop} (hC : cf_C m K A B C w) (hY : cf_Y 80 10 m K A B C w a_gates a_wires)
    {R t e : Nat} (hR : R < 64) (hl : cf_Lo (cf_st K A B C w f_given) R t e) (h0 : ∀ k, k < 64 → a_seen k = -1)
    (h : ∀ val seen : Nat → Int32, post (nI (t + 1024 * (e - t))) (f_size, nI m, f_isBuilt, f_given, nI R, a_gates, a_wires, val, seen)) :
    ∃ n, wY_circle_28 post n (nI R) 0 f_size (nI m) f_isBuilt f_given (nI R) a_gates a_wires a_values a_seen := by
  obtain ⟨h1, h2, h3, h4⟩ := hl
  have h64 := cf_it64 (cf_st64 K A B C w f_given) hR
  refine loop_0 (fun n i (s : (Nat → Int32) × (Nat → Int32)) => wY_circle_28 post n (nI (cf_it (cf_st K A B C w f_given) R i)) (nI i) f_size (nI m) f_isBuilt f_given (nI R) a_gates a_wires s.1 s.2) (fun i s => (∀ j, j < i → s.2 (cf_it (cf_st K A B C w f_given) R j) = nI j) ∧ ∀ k, k < 64 → (∀ j, j < i → cf_it (cf_st K A B C w f_given) R j ≠ k) → s.2 k = -1) e (a_values, a_seen) ?_ ?_ ?_
  · exact ⟨fun j hj => absurd hj (Nat.not_lt_zero j), fun k hk _ => h0 k hk⟩
  · rintro n ⟨val, seen⟩ ⟨hM, -⟩
    have hin : vp_in (nI (cf_it (cf_st K A B C w f_given) R e)) 64 := vp_in_nI (h64 e) (by decide)
    have es : seen (nI (cf_it (cf_st K A B C w f_given) R e)).toNatClampNeg = nI t := by
      rw [nI_clamp (by have := h64 e; omega), h3]
      exact hM t h1
    have ev : nI t + 1024 * (nI e - nI t) = nI (t + 1024 * (e - t)) := by
      have : (1024 : Int32) * nI (e - t) = nI (1024 * (e - t)) := pk_mul 1024 (e - t)
      rw [pk_sub (by omega), this, nI_add]
    refine ⟨hin, br_t ?_ ⟨hin, hin, ?_⟩⟩
    · show 0 ≤ seen _
      rw [es]
      exact nI_pos' (by omega)
    · show post (seen _ + 1024 * (nI e - seen _)) _
      rw [es, ev]
      exact h val seen
  · rintro n i ⟨val, seen⟩ hi ⟨hM, hN⟩ k
    have hin : vp_in (nI (cf_it (cf_st K A B C w f_given) R i)) 64 := vp_in_nI (h64 i) (by decide)
    have ec : (nI (cf_it (cf_st K A B C w f_given) R i)).toNatClampNeg = cf_it (cf_st K A B C w f_given) R i := nI_clamp (by have := h64 i; omega)
    have es : seen (nI (cf_it (cf_st K A B C w f_given) R i)).toNatClampNeg = -1 := by
      rw [ec]
      exact hN _ (h64 i) (fun j hj => h4 j i hj hi)
    refine ⟨hin, br_f ?_ ⟨hin, nm_e (nm_r (nI_1 i) ?_)⟩⟩
    · show ¬ 0 ≤ seen _
      rw [es]
      decide
    · refine cf_foY hC hY _ ?_
      intro val'
      refine k (val', upd seen (nI (cf_it (cf_st K A B C w f_given) R i)).toNatClampNeg (nI i)) ⟨?_, ?_⟩
      · intro j hj
        show upd seen _ _ _ = _
        rw [ec]
        by_cases ej : j = i
        · subst ej
          exact pk_us
        · rw [pk_un (h4 j i (by omega) hi)]
          exact hM j (by omega)
      · intro q hq hz
        show upd seen _ _ _ = _
        rw [ec, pk_un (fun z => hz i (by omega) z.symm)]
        exact hN q hq (fun j hj => hz j (by omega))
theorem cf_ciY {post : Int32 → SY → Prop} (hC : cf_C m K A B C w) (hY : cf_Y 80 10 m K A B C w a_gates a_wires)
    {R t e : Nat} (hR : R < 64) (hl : cf_Lo (cf_st K A B C w f_given) R t e)
    (h : ∀ val seen : Nat → Int32, post (nI (t + 1024 * (e - t))) (f_size, nI m, f_isBuilt, f_given, nI R, a_gates, a_wires, val, seen)) :
    wpY_circle post (f_size, nI m, f_isBuilt, f_given, nI R, a_gates, a_wires, a_values, a_seen) := by
  refine loop_0 (fun n i seen => wY_circle_2 post f_size (nI m) f_isBuilt f_given (nI R) n (nI i) a_gates a_wires a_values seen) (fun i seen => ∀ k, k < i → seen k = -1) 64 a_seen (fun j hj => absurd hj (Nat.not_lt_zero j)) ?_ ?_
  · intro n seen hs
    exact br_t (by decide) (cf_ci28 hC hY hR hl hs h)
  · intro n i seen hi hs k
    refine br_f (nI_ge (b := 64) hi (by decide)) ⟨vp_in_nI hi (by decide), nm_e (nm_r (nI_1 i) (k _ ?_))⟩
    intro j hj
    rw [nI_clamp (by omega)]
    by_cases e : j = i
    · subst e
      exact pk_us
    · rw [pk_un e]
      exact hs j (by omega)
theorem cf_taY {post : Int32 → SY → Prop} (hb : ¬ f_isBuilt = 0) (hC : cf_C m K A B C w) (hY : cf_Y 80 10 m K A B C w a_gates a_wires)
    {R t e : Nat} (hR : R < 64) (hl : cf_Lo (cf_st K A B C w f_given) R t e)
    (h : ∀ val seen : Nat → Int32, post (nI t) (f_size, nI m, f_isBuilt, f_given, nI R, a_gates, a_wires, val, seen)) :
    wpY_tail post (f_size, nI m, f_isBuilt, f_given, nI R, a_gates, a_wires, a_values, a_seen) := by
  refine br_f hb (cf_ciY hC hY hR hl ?_)
  intro val seen
  obtain ⟨h1, h2, -, -⟩ := hl
  refine ⟨by decide, ?_⟩
  have e1 : nI (t + 1024 * (e - t)) - nI (t + 1024 * (e - t)) / 1024 * 1024 = nI t := by
    have := pk_rem (a := t + 1024 * (e - t)) (d := 1024) (by omega) (by decide) (by decide)
    rw [Nat.add_mul_mod_self_left, Nat.mod_eq_of_lt (show t < 1024 by omega)] at this
    exact this
  rw [e1]
  exact h val seen
theorem cf_peY {post : Int32 → SY → Prop} (hb : ¬ f_isBuilt = 0) (hC : cf_C m K A B C w) (hY : cf_Y 80 10 m K A B C w a_gates a_wires)
    {R t e : Nat} (hR : R < 64) (hl : cf_Lo (cf_st K A B C w f_given) R t e)
    (h : ∀ val seen : Nat → Int32, post (nI (e - t)) (f_size, nI m, f_isBuilt, f_given, nI R, a_gates, a_wires, val, seen)) :
    wpY_period post (f_size, nI m, f_isBuilt, f_given, nI R, a_gates, a_wires, a_values, a_seen) := by
  refine br_f hb (cf_ciY hC hY hR hl ?_)
  intro val seen
  obtain ⟨h1, h2, -, -⟩ := hl
  refine ⟨by decide, ?_⟩
  have e1 : nI (t + 1024 * (e - t)) / 1024 = nI (e - t) := by
    have := pk_div (a := t + 1024 * (e - t)) (d := 1024) (by omega) (by decide) (by decide)
    rw [show (t + 1024 * (e - t)) / 1024 = e - t by omega] at this
    exact this
  rw [e1]
  exact h val seen
end CFY
