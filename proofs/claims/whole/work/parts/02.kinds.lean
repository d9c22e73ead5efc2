/-! one gate's level on both sides -/
theorem cf_kX {post : Int32 → Prop} {K : Nat} (hK : K < 10) (a b c : Bool) (h : post (cf_bi (cf_mk K a b c))) : wpX_levelOfKind post (nI K) (cf_bi a) (cf_bi b) (cf_bi c) := by
  match K, hK, h with
  | 0, _, h => exact br_f (by decide) (br_f (by decide) (br_t (by decide) (ek_v (cf_e0 a b c) h)))
  | 1, _, h => exact br_f (by decide) (br_f (by decide) (br_f (by decide) (br_t (by decide) (ek_v (cf_e1 a b c) h))))
  | 2, _, h => exact br_f (by decide) (br_f (by decide) (br_f (by decide) (br_f (by decide) (br_t (by decide) (ek_v (cf_e2 a b c) h)))))
  | 3, _, h => exact br_f (by decide) (br_f (by decide) (br_f (by decide) (br_f (by decide) (br_f (by decide) (br_t (by decide) (ek_v (cf_e3 a b c) h))))))
  | 4, _, h => exact br_f (by decide) (br_f (by decide) (br_f (by decide) (br_f (by decide) (br_f (by decide) (br_f (by decide) (br_t (by decide) (ek_v (cf_e4 a b c) h)))))))
  | 5, _, h => exact br_f (by decide) (br_f (by decide) (br_f (by decide) (br_f (by decide) (br_f (by decide) (br_f (by decide) (br_f (by decide) (br_t (by decide) (ek_v (cf_e5 a b c) h))))))))
  | 6, _, h => exact br_f (by decide) (br_f (by decide) (br_f (by decide) (br_f (by decide) (br_f (by decide) (br_f (by decide) (br_f (by decide) (br_f (by decide) (br_t (by decide) (ek_v (cf_e6 a b c) h)))))))))
  | 7, _, h =>
    cases a
    · exact br_f (by decide) (br_f (by decide) (br_f (by decide) (br_f (by decide) (br_f (by decide) (br_f (by decide) (br_f (by decide) (br_f (by decide) (br_f (by decide) (br_t (by decide) (br_f (by decide) h))))))))))
    · exact br_f (by decide) (br_f (by decide) (br_f (by decide) (br_f (by decide) (br_f (by decide) (br_f (by decide) (br_f (by decide) (br_f (by decide) (br_f (by decide) (br_t (by decide) (br_t (by decide) h))))))))))
  | 8, _, h =>
    cases a <;> cases b <;> cases c
    · exact br_f (by decide) (br_f (by decide) (br_f (by decide) (br_f (by decide) (br_f (by decide) (br_f (by decide) (br_f (by decide) (br_f (by decide) (br_f (by decide) (br_f (by decide) (br_t (by decide) (br_t (by decide) h)))))))))))
    · exact br_f (by decide) (br_f (by decide) (br_f (by decide) (br_f (by decide) (br_f (by decide) (br_f (by decide) (br_f (by decide) (br_f (by decide) (br_f (by decide) (br_f (by decide) (br_t (by decide) (br_t (by decide) h)))))))))))
    · exact br_f (by decide) (br_f (by decide) (br_f (by decide) (br_f (by decide) (br_f (by decide) (br_f (by decide) (br_f (by decide) (br_f (by decide) (br_f (by decide) (br_f (by decide) (br_t (by decide) (br_t (by decide) h)))))))))))
    · exact br_f (by decide) (br_f (by decide) (br_f (by decide) (br_f (by decide) (br_f (by decide) (br_f (by decide) (br_f (by decide) (br_f (by decide) (br_f (by decide) (br_f (by decide) (br_t (by decide) (br_f (by decide) h)))))))))))
    · exact br_f (by decide) (br_f (by decide) (br_f (by decide) (br_f (by decide) (br_f (by decide) (br_f (by decide) (br_f (by decide) (br_f (by decide) (br_f (by decide) (br_f (by decide) (br_t (by decide) (br_t (by decide) h)))))))))))
    · exact br_f (by decide) (br_f (by decide) (br_f (by decide) (br_f (by decide) (br_f (by decide) (br_f (by decide) (br_f (by decide) (br_f (by decide) (br_f (by decide) (br_f (by decide) (br_t (by decide) (br_f (by decide) h)))))))))))
    · exact br_f (by decide) (br_f (by decide) (br_f (by decide) (br_f (by decide) (br_f (by decide) (br_f (by decide) (br_f (by decide) (br_f (by decide) (br_f (by decide) (br_f (by decide) (br_t (by decide) (br_f (by decide) h)))))))))))
    · exact br_f (by decide) (br_f (by decide) (br_f (by decide) (br_f (by decide) (br_f (by decide) (br_f (by decide) (br_f (by decide) (br_f (by decide) (br_f (by decide) (br_f (by decide) (br_t (by decide) (br_f (by decide) h)))))))))))
  | 9, _, h => exact br_f (by decide) (br_t (by decide) (ek_v (cf_e9 a b c) h))
theorem cf_kY {post : Int32 → Prop} {f_size : Int32} {f_builtSize : Int32} {f_isBuilt : Int32} {f_given : Int32} {f_state : Int32} {a_gates : Nat → Int32} {a_wires : Nat → Int32} {a_values : Nat → Int32} {a_seen : Nat → Int32} {K : Nat} (hK : K < 10) (a b c : Bool) (h : post (cf_bi (cf_mk K a b c))) : wpY_made post (f_size, f_builtSize, f_isBuilt, f_given, f_state, a_gates, a_wires, a_values, a_seen) (nI K) (cf_bi a) (cf_bi b) (cf_bi c) := by
  match K, hK, h with
  | 0, _, h => exact nm_e (br_t (by decide) (ek_v (cf_y0 a b c) h))
  | 1, _, h =>
    cases a <;> cases b
    · exact nm_e (br_f (by decide) (br_t (by decide) (br_t (by decide) h)))
    · exact nm_e (br_f (by decide) (br_t (by decide) (br_f (by decide) h)))
    · exact nm_e (br_f (by decide) (br_t (by decide) (br_f (by decide) h)))
    · exact nm_e (br_f (by decide) (br_t (by decide) (br_f (by decide) h)))
  | 2, _, h => exact nm_e (br_f (by decide) (br_f (by decide) (br_t (by decide) (ek_v (cf_e2 a b c) h))))
  | 3, _, h => exact nm_e (br_f (by decide) (br_f (by decide) (br_f (by decide) (br_t (by decide) (ek_v (cf_y3 a b c) h)))))
  | 4, _, h =>
    cases a <;> cases b
    · exact nm_e (br_f (by decide) (br_f (by decide) (br_f (by decide) (br_f (by decide) (br_t (by decide) (br_t (by decide) h))))))
    · exact nm_e (br_f (by decide) (br_f (by decide) (br_f (by decide) (br_f (by decide) (br_t (by decide) (br_f (by decide) h))))))
    · exact nm_e (br_f (by decide) (br_f (by decide) (br_f (by decide) (br_f (by decide) (br_t (by decide) (br_f (by decide) h))))))
    · exact nm_e (br_f (by decide) (br_f (by decide) (br_f (by decide) (br_f (by decide) (br_t (by decide) (br_f (by decide) h))))))
  | 5, _, h => exact nm_e (br_f (by decide) (br_f (by decide) (br_f (by decide) (br_f (by decide) (br_f (by decide) (br_t (by decide) (ek_v (cf_e5 a b c) h)))))))
  | 6, _, h =>
    cases a <;> cases b
    · exact nm_e (br_f (by decide) (br_f (by decide) (br_f (by decide) (br_f (by decide) (br_f (by decide) (br_f (by decide) (br_t (by decide) (br_t (by decide) h))))))))
    · exact nm_e (br_f (by decide) (br_f (by decide) (br_f (by decide) (br_f (by decide) (br_f (by decide) (br_f (by decide) (br_t (by decide) (br_t (by decide) h))))))))
    · exact nm_e (br_f (by decide) (br_f (by decide) (br_f (by decide) (br_f (by decide) (br_f (by decide) (br_f (by decide) (br_t (by decide) (br_f (by decide) h))))))))
    · exact nm_e (br_f (by decide) (br_f (by decide) (br_f (by decide) (br_f (by decide) (br_f (by decide) (br_f (by decide) (br_t (by decide) (br_t (by decide) h))))))))
  | 7, _, h =>
    cases a
    · exact nm_e (br_f (by decide) (br_f (by decide) (br_f (by decide) (br_f (by decide) (br_f (by decide) (br_f (by decide) (br_f (by decide) (br_t (by decide) (br_f (by decide) h)))))))))
    · exact nm_e (br_f (by decide) (br_f (by decide) (br_f (by decide) (br_f (by decide) (br_f (by decide) (br_f (by decide) (br_f (by decide) (br_t (by decide) (br_t (by decide) h)))))))))
  | 8, _, h => exact nm_e (br_f (by decide) (br_f (by decide) (br_f (by decide) (br_f (by decide) (br_f (by decide) (br_f (by decide) (br_f (by decide) (br_f (by decide) (br_t (by decide) ⟨by decide, ek_v (cf_y8 a b c) h⟩)))))))))
  | 9, _, h => exact nm_e (br_f (by decide) (br_f (by decide) (br_f (by decide) (br_f (by decide) (br_f (by decide) (br_f (by decide) (br_f (by decide) (br_f (by decide) (br_f (by decide) (⟨by decide, ek_v (cf_y9 a b c) h⟩))))))))))
/-! the table of a kind -/
def cf_tb (K : Nat) : Nat → Int32
  | 0 => 0
  | m + 1 => cf_tb K m ||| (cf_bi (cf_mk K (m.testBit 0) (m.testBit 1) (m.testBit 2)) <<< (nI m &&& 31))
def cf_ix (a b c : Bool) : Nat := a.toNat + 2 * b.toNat + 4 * c.toNat
theorem cf_ix8 : ∀ a b c : Bool, cf_ix a b c < 8 := by decide
theorem cf_ixI : ∀ a b c : Bool, ((cf_bi a ||| (cf_bi b <<< ((1 : Int32) &&& 31))) ||| (cf_bi c <<< ((2 : Int32) &&& 31))) = nI (cf_ix a b c) := by decide
theorem cf_tbx : ∀ K, K < 10 → ∀ a b c : Bool, bt (cf_tb K 8) (cf_ix a b c) = cf_mk K a b c := by decide +kernel
theorem cf_m0 : ∀ m, m < 8 → nI m &&& 1 = cf_bi (m.testBit 0) := by decide +kernel
theorem cf_m1 : ∀ m, m < 8 → (nI m >>> ((1 : Int32) &&& 31)) &&& 1 = cf_bi (m.testBit 1) := by decide +kernel
theorem cf_m2 : ∀ m, m < 8 → nI m >>> ((2 : Int32) &&& 31) = cf_bi (m.testBit 2) := by decide +kernel
theorem cf_tX {post : Int32 → Prop} {K : Nat} (hK : K < 10) (h : post (cf_tb K 8)) : wpX_tableOfKind post (nI K) := by
  refine loop_0 (fun n i s => wX_tableOfKind_4 post (nI K) n s (nI i)) (fun i s => s = cf_tb K i) 8 0 rfl (fun n s hs => br_t (by decide) (by rw [hs]; exact h)) ?_
  intro n i s hi hs k
  refine br_f (nI_ge (b := 8) hi (by decide)) ?_
  rw [cf_m0 i hi, cf_m1 i hi, cf_m2 i hi]
  refine cf_kX hK _ _ _ (nm_e (nm_r (nI_1 i) (k _ ?_)))
  rw [hs]
  rfl
